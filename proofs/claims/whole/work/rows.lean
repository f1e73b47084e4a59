section
-- ===== PART A: goes FIRST, ahead of the names: the tables' words, and 'selects' of the private methods out of them =====
/-- a private method of a class that the tables say can be made, by its rows of tables_1 -/
def lw_okq (q : MethodName × Nat) : Prop := (q.1.cls ≠ "java/lang/invoke/MethodHandle" ∧ q.1.cls ≠ "java/lang/invoke/VarHandle") ∧ Cond.instantiable q.1.cls q.2 ∈ tables_1 ∧ Cond.privateMethod q.1 ∈ tables_1 ∧ Cond.instanceMethod q.1 ∈ tables_1
theorem lw_p0 : lw_okq (⟨"ShelfFilters$Net", "clearCounts", "()V"⟩, 7) := ⟨⟨by decide +kernel, by decide +kernel⟩, List.mem_of_getElem? (i := 28) (by decide +kernel), List.mem_of_getElem? (i := 220) (by decide +kernel), List.mem_of_getElem? (i := 221) (by decide +kernel)⟩
theorem lw_p1 : lw_okq (⟨"ShelfFilters$Net", "rebuild", "(LShelfFilters$Proxy;)V"⟩, 7) := ⟨⟨by decide +kernel, by decide +kernel⟩, List.mem_of_getElem? (i := 28) (by decide +kernel), List.mem_of_getElem? (i := 244) (by decide +kernel), List.mem_of_getElem? (i := 245) (by decide +kernel)⟩
theorem lw_p2 : lw_okq (⟨"ShelfFilters$Net", "tally", "(LShelfFilters$Proxy;II)V"⟩, 7) := ⟨⟨by decide +kernel, by decide +kernel⟩, List.mem_of_getElem? (i := 28) (by decide +kernel), List.mem_of_getElem? (i := 256) (by decide +kernel), List.mem_of_getElem? (i := 257) (by decide +kernel)⟩
theorem lw_p3 : lw_okq (⟨"ShelfFilters$Text", "readHead", "()Z"⟩, 5) := ⟨⟨by decide +kernel, by decide +kernel⟩, List.mem_of_getElem? (i := 22) (by decide +kernel), List.mem_of_getElem? (i := 327) (by decide +kernel), List.mem_of_getElem? (i := 328) (by decide +kernel)⟩
theorem lw_p4 : lw_okq (⟨"ShelfFilters$Text", "pass", "(I)Z"⟩, 5) := ⟨⟨by decide +kernel, by decide +kernel⟩, List.mem_of_getElem? (i := 22) (by decide +kernel), List.mem_of_getElem? (i := 331) (by decide +kernel), List.mem_of_getElem? (i := 332) (by decide +kernel)⟩
theorem lw_p5 : lw_okq (⟨"ShelfFilters$Text", "letter", "()I"⟩, 5) := ⟨⟨by decide +kernel, by decide +kernel⟩, List.mem_of_getElem? (i := 22) (by decide +kernel), List.mem_of_getElem? (i := 335) (by decide +kernel), List.mem_of_getElem? (i := 336) (by decide +kernel)⟩
theorem lw_p6 : lw_okq (⟨"ShelfFilters$Text", "passDigit", "(II)Z"⟩, 5) := ⟨⟨by decide +kernel, by decide +kernel⟩, List.mem_of_getElem? (i := 22) (by decide +kernel), List.mem_of_getElem? (i := 339) (by decide +kernel), List.mem_of_getElem? (i := 340) (by decide +kernel)⟩
theorem lw_p7 : lw_okq (⟨"ShelfFilters$Text", "readPart", "()Z"⟩, 5) := ⟨⟨by decide +kernel, by decide +kernel⟩, List.mem_of_getElem? (i := 22) (by decide +kernel), List.mem_of_getElem? (i := 344) (by decide +kernel), List.mem_of_getElem? (i := 345) (by decide +kernel)⟩
theorem lw_p8 : lw_okq (⟨"ShelfFilters$Text", "readFamily", "()Z"⟩, 5) := ⟨⟨by decide +kernel, by decide +kernel⟩, List.mem_of_getElem? (i := 22) (by decide +kernel), List.mem_of_getElem? (i := 348) (by decide +kernel), List.mem_of_getElem? (i := 349) (by decide +kernel)⟩
theorem lw_p9 : lw_okq (⟨"ShelfFilters$Text", "readProxy", "()Z"⟩, 5) := ⟨⟨by decide +kernel, by decide +kernel⟩, List.mem_of_getElem? (i := 22) (by decide +kernel), List.mem_of_getElem? (i := 353) (by decide +kernel), List.mem_of_getElem? (i := 354) (by decide +kernel)⟩
theorem lw_p10 : lw_okq (⟨"ShelfFilters$Text", "readShelved", "()Z"⟩, 5) := ⟨⟨by decide +kernel, by decide +kernel⟩, List.mem_of_getElem? (i := 22) (by decide +kernel), List.mem_of_getElem? (i := 374) (by decide +kernel), List.mem_of_getElem? (i := 375) (by decide +kernel)⟩
theorem lw_p11 : lw_okq (⟨"ShelfFilters$Net", "searchOthers", "(II)I"⟩, 7) := ⟨⟨by decide +kernel, by decide +kernel⟩, List.mem_of_getElem? (i := 28) (by decide +kernel), List.mem_of_getElem? (i := 508) (by decide +kernel), List.mem_of_getElem? (i := 509) (by decide +kernel)⟩
theorem lw_p12 : lw_okq (⟨"ShelfFilters$Net", "removePage", "(LShelfFilters$Proxy;I)V"⟩, 7) := ⟨⟨by decide +kernel, by decide +kernel⟩, List.mem_of_getElem? (i := 28) (by decide +kernel), List.mem_of_getElem? (i := 512) (by decide +kernel), List.mem_of_getElem? (i := 513) (by decide +kernel)⟩
theorem lw_p13 : lw_okq (⟨"ShelfFilters$Net", "addPage", "(LShelfFilters$Proxy;I)V"⟩, 7) := ⟨⟨by decide +kernel, by decide +kernel⟩, List.mem_of_getElem? (i := 28) (by decide +kernel), List.mem_of_getElem? (i := 518) (by decide +kernel), List.mem_of_getElem? (i := 519) (by decide +kernel)⟩
theorem lw_p14 : lw_okq (⟨"ShelfFilters", "findCheapest", "(II)I"⟩, 10) := ⟨⟨by decide +kernel, by decide +kernel⟩, List.mem_of_getElem? (i := 14) (by decide +kernel), List.mem_of_getElem? (i := 599) (by decide +kernel), List.mem_of_getElem? (i := 600) (by decide +kernel)⟩
theorem lw_p15 : lw_okq (⟨"ShelfFilters", "triedCost", "(I)I"⟩, 10) := ⟨⟨by decide +kernel, by decide +kernel⟩, List.mem_of_getElem? (i := 14) (by decide +kernel), List.mem_of_getElem? (i := 607) (by decide +kernel), List.mem_of_getElem? (i := 608) (by decide +kernel)⟩
def lw_privs_1 : List (MethodName × Nat) := [(⟨"ShelfFilters$Net", "clearCounts", "()V"⟩, 7), (⟨"ShelfFilters$Net", "rebuild", "(LShelfFilters$Proxy;)V"⟩, 7), (⟨"ShelfFilters$Net", "tally", "(LShelfFilters$Proxy;II)V"⟩, 7), (⟨"ShelfFilters$Text", "readHead", "()Z"⟩, 5), (⟨"ShelfFilters$Text", "pass", "(I)Z"⟩, 5), (⟨"ShelfFilters$Text", "letter", "()I"⟩, 5), (⟨"ShelfFilters$Text", "passDigit", "(II)Z"⟩, 5), (⟨"ShelfFilters$Text", "readPart", "()Z"⟩, 5), (⟨"ShelfFilters$Text", "readFamily", "()Z"⟩, 5), (⟨"ShelfFilters$Text", "readProxy", "()Z"⟩, 5), (⟨"ShelfFilters$Text", "readShelved", "()Z"⟩, 5), (⟨"ShelfFilters$Net", "searchOthers", "(II)I"⟩, 7), (⟨"ShelfFilters$Net", "removePage", "(LShelfFilters$Proxy;I)V"⟩, 7), (⟨"ShelfFilters$Net", "addPage", "(LShelfFilters$Proxy;I)V"⟩, 7), (⟨"ShelfFilters", "findCheapest", "(II)I"⟩, 10), (⟨"ShelfFilters", "triedCost", "(I)I"⟩, 10)]
theorem lw_r1 : ∀ q ∈ lw_privs_1, lw_okq q := List.forall_mem_cons.mpr ⟨lw_p0, List.forall_mem_cons.mpr ⟨lw_p1, List.forall_mem_cons.mpr ⟨lw_p2, List.forall_mem_cons.mpr ⟨lw_p3, List.forall_mem_cons.mpr ⟨lw_p4, List.forall_mem_cons.mpr ⟨lw_p5, List.forall_mem_cons.mpr ⟨lw_p6, List.forall_mem_cons.mpr ⟨lw_p7, List.forall_mem_cons.mpr ⟨lw_p8, List.forall_mem_cons.mpr ⟨lw_p9, List.forall_mem_cons.mpr ⟨lw_p10, List.forall_mem_cons.mpr ⟨lw_p11, List.forall_mem_cons.mpr ⟨lw_p12, List.forall_mem_cons.mpr ⟨lw_p13, List.forall_mem_cons.mpr ⟨lw_p14, List.forall_mem_cons.mpr ⟨lw_p15, fun _ h => absurd h List.not_mem_nil⟩⟩⟩⟩⟩⟩⟩⟩⟩⟩⟩⟩⟩⟩⟩⟩
theorem lw_p16 : lw_okq (⟨"ShelfFilters$Order", "swap", "(II)V"⟩, 2) := ⟨⟨by decide +kernel, by decide +kernel⟩, List.mem_of_getElem? (i := 198) (by decide +kernel), List.mem_of_getElem? (i := 625) (by decide +kernel), List.mem_of_getElem? (i := 626) (by decide +kernel)⟩
theorem lw_p17 : lw_okq (⟨"ShelfFilters$Sightings", "agrees", "(LShelfFilters$Net;I)Z"⟩, 4) := ⟨⟨by decide +kernel, by decide +kernel⟩, List.mem_of_getElem? (i := 177) (by decide +kernel), List.mem_of_getElem? (i := 657) (by decide +kernel), List.mem_of_getElem? (i := 658) (by decide +kernel)⟩
theorem lw_p18 : lw_okq (⟨"ShelfFilters", "wayWeight", "(II)I"⟩, 10) := ⟨⟨by decide +kernel, by decide +kernel⟩, List.mem_of_getElem? (i := 14) (by decide +kernel), List.mem_of_getElem? (i := 687) (by decide +kernel), List.mem_of_getElem? (i := 688) (by decide +kernel)⟩
theorem lw_p19 : lw_okq (⟨"ShelfFiltersModel", "readNet", "()I"⟩, 33) := ⟨⟨by decide +kernel, by decide +kernel⟩, List.mem_of_getElem? (i := 718) (by decide +kernel), List.mem_of_getElem? (i := 840) (by decide +kernel), List.mem_of_getElem? (i := 841) (by decide +kernel)⟩
theorem lw_p20 : lw_okq (⟨"ShelfFiltersModel", "readHead", "()Z"⟩, 33) := ⟨⟨by decide +kernel, by decide +kernel⟩, List.mem_of_getElem? (i := 718) (by decide +kernel), List.mem_of_getElem? (i := 844) (by decide +kernel), List.mem_of_getElem? (i := 845) (by decide +kernel)⟩
theorem lw_p21 : lw_okq (⟨"ShelfFiltersModel", "isFigure", "(II)Z"⟩, 33) := ⟨⟨by decide +kernel, by decide +kernel⟩, List.mem_of_getElem? (i := 718) (by decide +kernel), List.mem_of_getElem? (i := 848) (by decide +kernel), List.mem_of_getElem? (i := 849) (by decide +kernel)⟩
theorem lw_p22 : lw_okq (⟨"ShelfFiltersModel", "taken", "(I)I"⟩, 33) := ⟨⟨by decide +kernel, by decide +kernel⟩, List.mem_of_getElem? (i := 718) (by decide +kernel), List.mem_of_getElem? (i := 852) (by decide +kernel), List.mem_of_getElem? (i := 853) (by decide +kernel)⟩
theorem lw_p23 : lw_okq (⟨"ShelfFiltersModel", "readPart", "()Z"⟩, 33) := ⟨⟨by decide +kernel, by decide +kernel⟩, List.mem_of_getElem? (i := 718) (by decide +kernel), List.mem_of_getElem? (i := 856) (by decide +kernel), List.mem_of_getElem? (i := 857) (by decide +kernel)⟩
theorem lw_p24 : lw_okq (⟨"ShelfFiltersModel", "readFamily", "()Z"⟩, 33) := ⟨⟨by decide +kernel, by decide +kernel⟩, List.mem_of_getElem? (i := 718) (by decide +kernel), List.mem_of_getElem? (i := 860) (by decide +kernel), List.mem_of_getElem? (i := 861) (by decide +kernel)⟩
theorem lw_p25 : lw_okq (⟨"ShelfFiltersModel", "readProxy", "()Z"⟩, 33) := ⟨⟨by decide +kernel, by decide +kernel⟩, List.mem_of_getElem? (i := 718) (by decide +kernel), List.mem_of_getElem? (i := 864) (by decide +kernel), List.mem_of_getElem? (i := 865) (by decide +kernel)⟩
theorem lw_p26 : lw_okq (⟨"ShelfFiltersModel", "readShelf", "()Z"⟩, 33) := ⟨⟨by decide +kernel, by decide +kernel⟩, List.mem_of_getElem? (i := 718) (by decide +kernel), List.mem_of_getElem? (i := 868) (by decide +kernel), List.mem_of_getElem? (i := 869) (by decide +kernel)⟩
theorem lw_p27 : lw_okq (⟨"ShelfFiltersModel", "hasRoom", "(I)Z"⟩, 33) := ⟨⟨by decide +kernel, by decide +kernel⟩, List.mem_of_getElem? (i := 718) (by decide +kernel), List.mem_of_getElem? (i := 872) (by decide +kernel), List.mem_of_getElem? (i := 873) (by decide +kernel)⟩
theorem lw_p28 : lw_okq (⟨"ShelfFiltersModel", "mayCome", "(III)Z"⟩, 33) := ⟨⟨by decide +kernel, by decide +kernel⟩, List.mem_of_getElem? (i := 718) (by decide +kernel), List.mem_of_getElem? (i := 877) (by decide +kernel), List.mem_of_getElem? (i := 878) (by decide +kernel)⟩
theorem lw_p29 : lw_okq (⟨"ShelfFiltersModel", "makeAnew", "([II)V"⟩, 33) := ⟨⟨by decide +kernel, by decide +kernel⟩, List.mem_of_getElem? (i := 718) (by decide +kernel), List.mem_of_getElem? (i := 889) (by decide +kernel), List.mem_of_getElem? (i := 890) (by decide +kernel)⟩
theorem lw_p30 : lw_okq (⟨"ShelfFiltersModel", "tally", "([IIII)V"⟩, 33) := ⟨⟨by decide +kernel, by decide +kernel⟩, List.mem_of_getElem? (i := 718) (by decide +kernel), List.mem_of_getElem? (i := 893) (by decide +kernel), List.mem_of_getElem? (i := 894) (by decide +kernel)⟩
theorem lw_p31 : lw_okq (⟨"ShelfFiltersModel", "hashOf", "(III)I"⟩, 33) := ⟨⟨by decide +kernel, by decide +kernel⟩, List.mem_of_getElem? (i := 718) (by decide +kernel), List.mem_of_getElem? (i := 897) (by decide +kernel), List.mem_of_getElem? (i := 898) (by decide +kernel)⟩
def lw_privs_2 : List (MethodName × Nat) := [(⟨"ShelfFilters$Order", "swap", "(II)V"⟩, 2), (⟨"ShelfFilters$Sightings", "agrees", "(LShelfFilters$Net;I)Z"⟩, 4), (⟨"ShelfFilters", "wayWeight", "(II)I"⟩, 10), (⟨"ShelfFiltersModel", "readNet", "()I"⟩, 33), (⟨"ShelfFiltersModel", "readHead", "()Z"⟩, 33), (⟨"ShelfFiltersModel", "isFigure", "(II)Z"⟩, 33), (⟨"ShelfFiltersModel", "taken", "(I)I"⟩, 33), (⟨"ShelfFiltersModel", "readPart", "()Z"⟩, 33), (⟨"ShelfFiltersModel", "readFamily", "()Z"⟩, 33), (⟨"ShelfFiltersModel", "readProxy", "()Z"⟩, 33), (⟨"ShelfFiltersModel", "readShelf", "()Z"⟩, 33), (⟨"ShelfFiltersModel", "hasRoom", "(I)Z"⟩, 33), (⟨"ShelfFiltersModel", "mayCome", "(III)Z"⟩, 33), (⟨"ShelfFiltersModel", "makeAnew", "([II)V"⟩, 33), (⟨"ShelfFiltersModel", "tally", "([IIII)V"⟩, 33), (⟨"ShelfFiltersModel", "hashOf", "(III)I"⟩, 33)]
theorem lw_r2 : ∀ q ∈ lw_privs_2, lw_okq q := List.forall_mem_cons.mpr ⟨lw_p16, List.forall_mem_cons.mpr ⟨lw_p17, List.forall_mem_cons.mpr ⟨lw_p18, List.forall_mem_cons.mpr ⟨lw_p19, List.forall_mem_cons.mpr ⟨lw_p20, List.forall_mem_cons.mpr ⟨lw_p21, List.forall_mem_cons.mpr ⟨lw_p22, List.forall_mem_cons.mpr ⟨lw_p23, List.forall_mem_cons.mpr ⟨lw_p24, List.forall_mem_cons.mpr ⟨lw_p25, List.forall_mem_cons.mpr ⟨lw_p26, List.forall_mem_cons.mpr ⟨lw_p27, List.forall_mem_cons.mpr ⟨lw_p28, List.forall_mem_cons.mpr ⟨lw_p29, List.forall_mem_cons.mpr ⟨lw_p30, List.forall_mem_cons.mpr ⟨lw_p31, fun _ h => absurd h List.not_mem_nil⟩⟩⟩⟩⟩⟩⟩⟩⟩⟩⟩⟩⟩⟩⟩⟩
theorem lw_p32 : lw_okq (⟨"ShelfFiltersModel", "filterOf", "([II)I"⟩, 33) := ⟨⟨by decide +kernel, by decide +kernel⟩, List.mem_of_getElem? (i := 718) (by decide +kernel), List.mem_of_getElem? (i := 901) (by decide +kernel), List.mem_of_getElem? (i := 902) (by decide +kernel)⟩
theorem lw_p33 : lw_okq (⟨"ShelfFiltersModel", "noProxy", "(I)Z"⟩, 33) := ⟨⟨by decide +kernel, by decide +kernel⟩, List.mem_of_getElem? (i := 718) (by decide +kernel), List.mem_of_getElem? (i := 909) (by decide +kernel), List.mem_of_getElem? (i := 910) (by decide +kernel)⟩
theorem lw_p34 : lw_okq (⟨"ShelfFiltersModel", "falseOnes", "(III)I"⟩, 33) := ⟨⟨by decide +kernel, by decide +kernel⟩, List.mem_of_getElem? (i := 718) (by decide +kernel), List.mem_of_getElem? (i := 916) (by decide +kernel), List.mem_of_getElem? (i := 917) (by decide +kernel)⟩
theorem lw_p35 : lw_okq (⟨"ShelfFiltersModel", "isSaid", "(III)Z"⟩, 33) := ⟨⟨by decide +kernel, by decide +kernel⟩, List.mem_of_getElem? (i := 718) (by decide +kernel), List.mem_of_getElem? (i := 923) (by decide +kernel), List.mem_of_getElem? (i := 924) (by decide +kernel)⟩
theorem lw_p36 : lw_okq (⟨"ShelfFiltersModel", "denied", "(I)I"⟩, 33) := ⟨⟨by decide +kernel, by decide +kernel⟩, List.mem_of_getElem? (i := 718) (by decide +kernel), List.mem_of_getElem? (i := 927) (by decide +kernel), List.mem_of_getElem? (i := 928) (by decide +kernel)⟩
theorem lw_p37 : lw_okq (⟨"ShelfFiltersModel", "summarySays", "([III)Z"⟩, 33) := ⟨⟨by decide +kernel, by decide +kernel⟩, List.mem_of_getElem? (i := 718) (by decide +kernel), List.mem_of_getElem? (i := 931) (by decide +kernel), List.mem_of_getElem? (i := 932) (by decide +kernel)⟩
theorem lw_p38 : lw_okq (⟨"ShelfFiltersModel", "note", "()V"⟩, 33) := ⟨⟨by decide +kernel, by decide +kernel⟩, List.mem_of_getElem? (i := 718) (by decide +kernel), List.mem_of_getElem? (i := 960) (by decide +kernel), List.mem_of_getElem? (i := 961) (by decide +kernel)⟩
theorem lw_p39 : lw_okq (⟨"ShelfFiltersModel", "askOn", "([III)I"⟩, 33) := ⟨⟨by decide +kernel, by decide +kernel⟩, List.mem_of_getElem? (i := 718) (by decide +kernel), List.mem_of_getElem? (i := 964) (by decide +kernel), List.mem_of_getElem? (i := 965) (by decide +kernel)⟩
theorem lw_p40 : lw_okq (⟨"ShelfFiltersModel", "sendDue", "([I)V"⟩, 33) := ⟨⟨by decide +kernel, by decide +kernel⟩, List.mem_of_getElem? (i := 718) (by decide +kernel), List.mem_of_getElem? (i := 971) (by decide +kernel), List.mem_of_getElem? (i := 972) (by decide +kernel)⟩
theorem lw_p41 : lw_okq (⟨"ShelfFiltersModel", "sendOn", "([II)V"⟩, 33) := ⟨⟨by decide +kernel, by decide +kernel⟩, List.mem_of_getElem? (i := 718) (by decide +kernel), List.mem_of_getElem? (i := 975) (by decide +kernel), List.mem_of_getElem? (i := 976) (by decide +kernel)⟩
theorem lw_p42 : lw_okq (⟨"ShelfFiltersModel", "comeTo", "([III)V"⟩, 33) := ⟨⟨by decide +kernel, by decide +kernel⟩, List.mem_of_getElem? (i := 718) (by decide +kernel), List.mem_of_getElem? (i := 979) (by decide +kernel), List.mem_of_getElem? (i := 980) (by decide +kernel)⟩
theorem lw_p43 : lw_okq (⟨"ShelfFiltersModel", "goOut", "([III)V"⟩, 33) := ⟨⟨by decide +kernel, by decide +kernel⟩, List.mem_of_getElem? (i := 718) (by decide +kernel), List.mem_of_getElem? (i := 983) (by decide +kernel), List.mem_of_getElem? (i := 984) (by decide +kernel)⟩
theorem lw_p44 : lw_okq (⟨"ShelfFiltersModel", "dropOn", "([III)V"⟩, 33) := ⟨⟨by decide +kernel, by decide +kernel⟩, List.mem_of_getElem? (i := 718) (by decide +kernel), List.mem_of_getElem? (i := 991) (by decide +kernel), List.mem_of_getElem? (i := 992) (by decide +kernel)⟩
theorem lw_p45 : lw_okq (⟨"ShelfFiltersModel", "useOn", "([II)V"⟩, 33) := ⟨⟨by decide +kernel, by decide +kernel⟩, List.mem_of_getElem? (i := 718) (by decide +kernel), List.mem_of_getElem? (i := 1007) (by decide +kernel), List.mem_of_getElem? (i := 1008) (by decide +kernel)⟩
theorem lw_p46 : lw_okq (⟨"ShelfFiltersModel", "madeBy", "(II)I"⟩, 33) := ⟨⟨by decide +kernel, by decide +kernel⟩, List.mem_of_getElem? (i := 718) (by decide +kernel), List.mem_of_getElem? (i := 1036) (by decide +kernel), List.mem_of_getElem? (i := 1037) (by decide +kernel)⟩
theorem lw_p47 : lw_okq (⟨"ShelfFiltersModel", "layTrial", "()V"⟩, 33) := ⟨⟨by decide +kernel, by decide +kernel⟩, List.mem_of_getElem? (i := 718) (by decide +kernel), List.mem_of_getElem? (i := 1048) (by decide +kernel), List.mem_of_getElem? (i := 1049) (by decide +kernel)⟩
def lw_privs_3 : List (MethodName × Nat) := [(⟨"ShelfFiltersModel", "filterOf", "([II)I"⟩, 33), (⟨"ShelfFiltersModel", "noProxy", "(I)Z"⟩, 33), (⟨"ShelfFiltersModel", "falseOnes", "(III)I"⟩, 33), (⟨"ShelfFiltersModel", "isSaid", "(III)Z"⟩, 33), (⟨"ShelfFiltersModel", "denied", "(I)I"⟩, 33), (⟨"ShelfFiltersModel", "summarySays", "([III)Z"⟩, 33), (⟨"ShelfFiltersModel", "note", "()V"⟩, 33), (⟨"ShelfFiltersModel", "askOn", "([III)I"⟩, 33), (⟨"ShelfFiltersModel", "sendDue", "([I)V"⟩, 33), (⟨"ShelfFiltersModel", "sendOn", "([II)V"⟩, 33), (⟨"ShelfFiltersModel", "comeTo", "([III)V"⟩, 33), (⟨"ShelfFiltersModel", "goOut", "([III)V"⟩, 33), (⟨"ShelfFiltersModel", "dropOn", "([III)V"⟩, 33), (⟨"ShelfFiltersModel", "useOn", "([II)V"⟩, 33), (⟨"ShelfFiltersModel", "madeBy", "(II)I"⟩, 33), (⟨"ShelfFiltersModel", "layTrial", "()V"⟩, 33)]
theorem lw_r3 : ∀ q ∈ lw_privs_3, lw_okq q := List.forall_mem_cons.mpr ⟨lw_p32, List.forall_mem_cons.mpr ⟨lw_p33, List.forall_mem_cons.mpr ⟨lw_p34, List.forall_mem_cons.mpr ⟨lw_p35, List.forall_mem_cons.mpr ⟨lw_p36, List.forall_mem_cons.mpr ⟨lw_p37, List.forall_mem_cons.mpr ⟨lw_p38, List.forall_mem_cons.mpr ⟨lw_p39, List.forall_mem_cons.mpr ⟨lw_p40, List.forall_mem_cons.mpr ⟨lw_p41, List.forall_mem_cons.mpr ⟨lw_p42, List.forall_mem_cons.mpr ⟨lw_p43, List.forall_mem_cons.mpr ⟨lw_p44, List.forall_mem_cons.mpr ⟨lw_p45, List.forall_mem_cons.mpr ⟨lw_p46, List.forall_mem_cons.mpr ⟨lw_p47, fun _ h => absurd h List.not_mem_nil⟩⟩⟩⟩⟩⟩⟩⟩⟩⟩⟩⟩⟩⟩⟩⟩
theorem lw_p48 : lw_okq (⟨"ShelfFiltersModel", "layBest", "(II)V"⟩, 33) := ⟨⟨by decide +kernel, by decide +kernel⟩, List.mem_of_getElem? (i := 718) (by decide +kernel), List.mem_of_getElem? (i := 1060) (by decide +kernel), List.mem_of_getElem? (i := 1061) (by decide +kernel)⟩
theorem lw_p49 : lw_okq (⟨"ShelfFiltersModel", "layOrder", "(III)V"⟩, 33) := ⟨⟨by decide +kernel, by decide +kernel⟩, List.mem_of_getElem? (i := 718) (by decide +kernel), List.mem_of_getElem? (i := 1064) (by decide +kernel), List.mem_of_getElem? (i := 1065) (by decide +kernel)⟩
theorem lw_p50 : lw_okq (⟨"ShelfFiltersModel", "does", "(I)Z"⟩, 33) := ⟨⟨by decide +kernel, by decide +kernel⟩, List.mem_of_getElem? (i := 718) (by decide +kernel), List.mem_of_getElem? (i := 1076) (by decide +kernel), List.mem_of_getElem? (i := 1077) (by decide +kernel)⟩
theorem lw_p51 : lw_okq (⟨"ShelfFiltersModel", "isSo", "(II)Z"⟩, 33) := ⟨⟨by decide +kernel, by decide +kernel⟩, List.mem_of_getElem? (i := 718) (by decide +kernel), List.mem_of_getElem? (i := 1093) (by decide +kernel), List.mem_of_getElem? (i := 1094) (by decide +kernel)⟩
theorem lw_p52 : lw_okq (⟨"ShelfFiltersModel", "hadBy", "(I)I"⟩, 33) := ⟨⟨by decide +kernel, by decide +kernel⟩, List.mem_of_getElem? (i := 718) (by decide +kernel), List.mem_of_getElem? (i := 1104) (by decide +kernel), List.mem_of_getElem? (i := 1105) (by decide +kernel)⟩
theorem lw_p53 : lw_okq (⟨"ShelfFiltersModel", "isRight", "(III)Z"⟩, 33) := ⟨⟨by decide +kernel, by decide +kernel⟩, List.mem_of_getElem? (i := 718) (by decide +kernel), List.mem_of_getElem? (i := 1119) (by decide +kernel), List.mem_of_getElem? (i := 1120) (by decide +kernel)⟩
theorem lw_p54 : lw_okq (⟨"ShelfFiltersModel", "onShelves", "()I"⟩, 33) := ⟨⟨by decide +kernel, by decide +kernel⟩, List.mem_of_getElem? (i := 718) (by decide +kernel), List.mem_of_getElem? (i := 1146) (by decide +kernel), List.mem_of_getElem? (i := 1147) (by decide +kernel)⟩
def lw_privs_4 : List (MethodName × Nat) := [(⟨"ShelfFiltersModel", "layBest", "(II)V"⟩, 33), (⟨"ShelfFiltersModel", "layOrder", "(III)V"⟩, 33), (⟨"ShelfFiltersModel", "does", "(I)Z"⟩, 33), (⟨"ShelfFiltersModel", "isSo", "(II)Z"⟩, 33), (⟨"ShelfFiltersModel", "hadBy", "(I)I"⟩, 33), (⟨"ShelfFiltersModel", "isRight", "(III)Z"⟩, 33), (⟨"ShelfFiltersModel", "onShelves", "()I"⟩, 33)]
theorem lw_r4 : ∀ q ∈ lw_privs_4, lw_okq q := List.forall_mem_cons.mpr ⟨lw_p48, List.forall_mem_cons.mpr ⟨lw_p49, List.forall_mem_cons.mpr ⟨lw_p50, List.forall_mem_cons.mpr ⟨lw_p51, List.forall_mem_cons.mpr ⟨lw_p52, List.forall_mem_cons.mpr ⟨lw_p53, List.forall_mem_cons.mpr ⟨lw_p54, fun _ h => absurd h List.not_mem_nil⟩⟩⟩⟩⟩⟩⟩
def lw_privs : List (MethodName × Nat) := lw_privs_1 ++ (lw_privs_2 ++ (lw_privs_3 ++ (lw_privs_4)))
def lw_tbl : List Cond := k2_sels lw_privs ++ tables_1
theorem lw_privs_ok : ∀ q ∈ lw_privs, lw_okq q := by
  show ∀ q ∈ lw_privs_1 ++ (lw_privs_2 ++ (lw_privs_3 ++ (lw_privs_4))), lw_okq q
  exact List.forall_mem_append.mpr ⟨lw_r1, List.forall_mem_append.mpr ⟨lw_r2, List.forall_mem_append.mpr ⟨lw_r3, lw_r4⟩⟩⟩
/-- the streams that the claim lets the run draw from -/
abbrev lw_cs : List Choice := [Jvm.Choice.named "NaN.bits"]
theorem lw_bits : nanBits ∈ lw_cs := by first | decide | exact List.mem_cons_self | simp [lw_cs, nanBits]
-- ===== end of PART A; then your names; then what follows =====
end
section
def RX0 : String := "ShelfFilters$Hashing"
def TX0 : u_T := fun k => match k with
  | 0 => ("ShelfFilters$Hashing", "cells", "I", false)
  | 1 => ("ShelfFilters$Hashing", "functions", "I", false)
  | 2 => ("ShelfFilters$Hashing", "families", "I", false)
  | 3 => ("ShelfFilters$Hashing", "present", "I", false)
  | 4 => ("ShelfFilters$Hashing", "factors", "[I", true)
  | _ => ("ShelfFilters$Hashing", "shifts", "[I", true)
def tyX0 : Nat → FieldType := fun k => match k with
  | 0 => .int
  | 1 => .int
  | 2 => .int
  | 3 => .int
  | 4 => .array .int
  | _ => .array .int
abbrev wsX00 : List Cond := u_ws RX0 TX0 6
theorem nmX0 : ∀ a, a < 6 → ∀ b, b < 6 → a ≠ b → (TX0 a).2.1 ≠ (TX0 b).2.1 := by decide +kernel
theorem tyX0_ok : ∀ k, k < 6 → parseFieldDescriptor (TX0 k).2.2.1 = some (tyX0 k) := by decide +kernel
abbrev cX0_init : ByteArray := prog_2_method_1_code
def yX0_init : MethodName := ⟨RX0, "<init>", "()V"⟩
abbrev cX0_take : ByteArray := prog_2_method_2_code
def yX0_take : MethodName := ⟨RX0, "take", "(LShelfFilters$Hashing;)V"⟩
abbrev cX0_begin : ByteArray := prog_2_method_3_code
def yX0_begin : MethodName := ⟨RX0, "begin", "(II)V"⟩
abbrev cX0_addFamily : ByteArray := prog_2_method_4_code
def yX0_addFamily : MethodName := ⟨RX0, "addFamily", "(II)V"⟩
abbrev cX0_isFamily : ByteArray := prog_2_method_5_code
def yX0_isFamily : MethodName := ⟨RX0, "isFamily", "(I)Z"⟩
abbrev cX0_cell : ByteArray := prog_2_method_6_code
def yX0_cell : MethodName := ⟨RX0, "cell", "(III)I"⟩
abbrev cX0_cellSet : ByteArray := prog_2_method_7_code
def yX0_cellSet : MethodName := ⟨RX0, "cellSet", "(II)I"⟩
abbrev cX0_contains : ByteArray := prog_2_method_8_code
def yX0_contains : MethodName := ⟨RX0, "contains", "(III)Z"⟩
abbrev cX0_pagesIn : ByteArray := prog_2_method_9_code
def yX0_pagesIn : MethodName := ⟨RX0, "pagesIn", "(II)I"⟩
def RX1 : String := "ShelfFilters$Net"
def TX1 : u_T := fun k => match k with
  | 0 => ("ShelfFilters$Net", "hashing", "LShelfFilters$Hashing;", true)
  | 1 => ("ShelfFilters$Net", "proxies", "[LShelfFilters$Proxy;", true)
  | 2 => ("ShelfFilters$Net", "size", "I", false)
  | 3 => ("ShelfFilters$Net", "requests", "I", false)
  | 4 => ("ShelfFilters$Net", "falseHits", "I", false)
  | 5 => ("ShelfFilters$Net", "fetches", "I", false)
  | _ => ("ShelfFilters$Net", "messages", "I", false)
def tyX1 : Nat → FieldType := fun k => match k with
  | 0 => .object "ShelfFilters$Hashing"
  | 1 => .array (.object "ShelfFilters$Proxy")
  | 2 => .int
  | 3 => .int
  | 4 => .int
  | 5 => .int
  | _ => .int
abbrev wsX10 : List Cond := u_ws RX1 TX1 7
theorem nmX1 : ∀ a, a < 7 → ∀ b, b < 7 → a ≠ b → (TX1 a).2.1 ≠ (TX1 b).2.1 := by decide +kernel
theorem tyX1_ok : ∀ k, k < 7 → parseFieldDescriptor (TX1 k).2.2.1 = some (tyX1 k) := by decide +kernel
abbrev cX1_init : ByteArray := prog_3_method_1_code
def yX1_init : MethodName := ⟨RX1, "<init>", "()V"⟩
abbrev cX1_take : ByteArray := prog_3_method_2_code
def yX1_take : MethodName := ⟨RX1, "take", "(LShelfFilters$Net;)V"⟩
abbrev cX1_begin : ByteArray := prog_3_method_3_code
def yX1_begin : MethodName := ⟨RX1, "begin", "(II)V"⟩
abbrev cX1_clearCounts : ByteArray := prog_3_method_4_code
def yX1_clearCounts : MethodName := ⟨RX1, "clearCounts", "()V"⟩
abbrev cX1_addProxy : ByteArray := prog_3_method_5_code
def yX1_addProxy : MethodName := ⟨RX1, "addProxy", "(II)V"⟩
abbrev cX1_complete : ByteArray := prog_3_method_6_code
def yX1_complete : MethodName := ⟨RX1, "complete", "()V"⟩
abbrev cX1_proxyAt : ByteArray := prog_3_method_7_code
def yX1_proxyAt : MethodName := ⟨RX1, "proxyAt", "(I)LShelfFilters$Proxy;"⟩
abbrev cX1_anyRoom : ByteArray := prog_3_method_8_code
def yX1_anyRoom : MethodName := ⟨RX1, "anyRoom", "()Z"⟩
abbrev cX1_cost : ByteArray := prog_3_method_9_code
def yX1_cost : MethodName := ⟨RX1, "cost", "()I"⟩
abbrev cX1_allPages : ByteArray := prog_3_method_10_code
def yX1_allPages : MethodName := ⟨RX1, "allPages", "()I"⟩
abbrev cX1_holders : ByteArray := prog_3_method_11_code
def yX1_holders : MethodName := ⟨RX1, "holders", "(I)I"⟩
abbrev cX1_isSo : ByteArray := prog_3_method_12_code
def yX1_isSo : MethodName := ⟨RX1, "isSo", "(LShelfFilters$Proxy;II)Z"⟩
abbrev cX1_claimed : ByteArray := prog_3_method_13_code
def yX1_claimed : MethodName := ⟨RX1, "claimed", "(LShelfFilters$Proxy;)I"⟩
abbrev cX1_wrongPages : ByteArray := prog_3_method_14_code
def yX1_wrongPages : MethodName := ⟨RX1, "wrongPages", "(LShelfFilters$Proxy;I)I"⟩
abbrev cX1_request : ByteArray := prog_3_method_15_code
def yX1_request : MethodName := ⟨RX1, "request", "(II)I"⟩
abbrev cX1_searchOthers : ByteArray := prog_3_method_16_code
def yX1_searchOthers : MethodName := ⟨RX1, "searchOthers", "(II)I"⟩
abbrev cX1_addPage : ByteArray := prog_3_method_17_code
def yX1_addPage : MethodName := ⟨RX1, "addPage", "(LShelfFilters$Proxy;I)V"⟩
abbrev cX1_removePage : ByteArray := prog_3_method_18_code
def yX1_removePage : MethodName := ⟨RX1, "removePage", "(LShelfFilters$Proxy;I)V"⟩
abbrev cX1_tally : ByteArray := prog_3_method_19_code
def yX1_tally : MethodName := ⟨RX1, "tally", "(LShelfFilters$Proxy;II)V"⟩
abbrev cX1_discard : ByteArray := prog_3_method_20_code
def yX1_discard : MethodName := ⟨RX1, "discard", "(LShelfFilters$Proxy;I)Z"⟩
abbrev cX1_spread : ByteArray := prog_3_method_21_code
def yX1_spread : MethodName := ⟨RX1, "spread", "(LShelfFilters$Proxy;)Z"⟩
abbrev cX1_spreadDue : ByteArray := prog_3_method_22_code
def yX1_spreadDue : MethodName := ⟨RX1, "spreadDue", "()V"⟩
abbrev cX1_adopt : ByteArray := prog_3_method_23_code
def yX1_adopt : MethodName := ⟨RX1, "adopt", "(I)Z"⟩
abbrev cX1_rebuild : ByteArray := prog_3_method_24_code
def yX1_rebuild : MethodName := ⟨RX1, "rebuild", "(LShelfFilters$Proxy;)V"⟩
abbrev cX1_servesWell : ByteArray := prog_3_method_25_code
def yX1_servesWell : MethodName := ⟨RX1, "servesWell", "(III)Z"⟩
def RX2 : String := "ShelfFilters$Order"
def TX2 : u_T := fun k => match k with
  | 0 => ("ShelfFilters$Order", "size", "I", false)
  | _ => ("ShelfFilters$Order", "pages", "[I", true)
def tyX2 : Nat → FieldType := fun k => match k with
  | 0 => .int
  | _ => .array .int
abbrev wsX20 : List Cond := u_ws RX2 TX2 2
theorem nmX2 : ∀ a, a < 2 → ∀ b, b < 2 → a ≠ b → (TX2 a).2.1 ≠ (TX2 b).2.1 := by decide +kernel
theorem tyX2_ok : ∀ k, k < 2 → parseFieldDescriptor (TX2 k).2.2.1 = some (tyX2 k) := by decide +kernel
abbrev cX2_init : ByteArray := prog_4_method_1_code
def yX2_init : MethodName := ⟨RX2, "<init>", "()V"⟩
abbrev cX2_take : ByteArray := prog_4_method_2_code
def yX2_take : MethodName := ⟨RX2, "take", "(LShelfFilters$Order;)V"⟩
abbrev cX2_pageAt : ByteArray := prog_4_method_3_code
def yX2_pageAt : MethodName := ⟨RX2, "pageAt", "(I)I"⟩
abbrev cX2_begin : ByteArray := prog_4_method_4_code
def yX2_begin : MethodName := ⟨RX2, "begin", "(I)V"⟩
abbrev cX2_advance : ByteArray := prog_4_method_5_code
def yX2_advance : MethodName := ⟨RX2, "advance", "()Z"⟩
abbrev cX2_swap : ByteArray := prog_4_method_6_code
def yX2_swap : MethodName := ⟨RX2, "swap", "(II)V"⟩
def RX3 : String := "ShelfFilters$Past"
def TX3 : u_T := fun k => match k with
  | 0 => ("ShelfFilters$Past", "nets", "[LShelfFilters$Net;", true)
  | 1 => ("ShelfFilters$Past", "next", "I", false)
  | _ => ("ShelfFilters$Past", "size", "I", false)
def tyX3 : Nat → FieldType := fun k => match k with
  | 0 => .array (.object "ShelfFilters$Net")
  | 1 => .int
  | _ => .int
abbrev wsX30 : List Cond := u_ws RX3 TX3 3
theorem nmX3 : ∀ a, a < 3 → ∀ b, b < 3 → a ≠ b → (TX3 a).2.1 ≠ (TX3 b).2.1 := by decide +kernel
theorem tyX3_ok : ∀ k, k < 3 → parseFieldDescriptor (TX3 k).2.2.1 = some (tyX3 k) := by decide +kernel
abbrev cX3_init : ByteArray := prog_5_method_1_code
def yX3_init : MethodName := ⟨RX3, "<init>", "()V"⟩
abbrev cX3_forget : ByteArray := prog_5_method_2_code
def yX3_forget : MethodName := ⟨RX3, "forget", "()V"⟩
abbrev cX3_record : ByteArray := prog_5_method_3_code
def yX3_record : MethodName := ⟨RX3, "record", "(LShelfFilters$Net;)V"⟩
abbrev cX3_restore : ByteArray := prog_5_method_4_code
def yX3_restore : MethodName := ⟨RX3, "restore", "(LShelfFilters$Net;)Z"⟩
def RX4 : String := "ShelfFilters$Proxy"
def TX4 : u_T := fun k => match k with
  | 0 => ("ShelfFilters$Proxy", "room", "I", false)
  | 1 => ("ShelfFilters$Proxy", "limit", "I", false)
  | 2 => ("ShelfFilters$Proxy", "pages", "I", false)
  | 3 => ("ShelfFilters$Proxy", "changes", "I", false)
  | 4 => ("ShelfFilters$Proxy", "summary", "I", false)
  | 5 => ("ShelfFilters$Proxy", "shelf", "[I", true)
  | _ => ("ShelfFilters$Proxy", "counters", "[I", true)
def tyX4 : Nat → FieldType := fun k => match k with
  | 0 => .int
  | 1 => .int
  | 2 => .int
  | 3 => .int
  | 4 => .int
  | 5 => .array .int
  | _ => .array .int
abbrev wsX40 : List Cond := u_ws RX4 TX4 7
theorem nmX4 : ∀ a, a < 7 → ∀ b, b < 7 → a ≠ b → (TX4 a).2.1 ≠ (TX4 b).2.1 := by decide +kernel
theorem tyX4_ok : ∀ k, k < 7 → parseFieldDescriptor (TX4 k).2.2.1 = some (tyX4 k) := by decide +kernel
abbrev cX4_init : ByteArray := prog_6_method_1_code
def yX4_init : MethodName := ⟨RX4, "<init>", "()V"⟩
abbrev cX4_take : ByteArray := prog_6_method_2_code
def yX4_take : MethodName := ⟨RX4, "take", "(LShelfFilters$Proxy;)V"⟩
abbrev cX4_begin : ByteArray := prog_6_method_3_code
def yX4_begin : MethodName := ⟨RX4, "begin", "(II)V"⟩
abbrev cX4_clearCounters : ByteArray := prog_6_method_4_code
def yX4_clearCounters : MethodName := ⟨RX4, "clearCounters", "()V"⟩
abbrev cX4_hasRoom : ByteArray := prog_6_method_5_code
def yX4_hasRoom : MethodName := ⟨RX4, "hasRoom", "()Z"⟩
abbrev cX4_pageAt : ByteArray := prog_6_method_6_code
def yX4_pageAt : MethodName := ⟨RX4, "pageAt", "(I)I"⟩
abbrev cX4_placeOf : ByteArray := prog_6_method_7_code
def yX4_placeOf : MethodName := ⟨RX4, "placeOf", "(I)I"⟩
abbrev cX4_has : ByteArray := prog_6_method_8_code
def yX4_has : MethodName := ⟨RX4, "has", "(I)Z"⟩
abbrev cX4_shelfSet : ByteArray := prog_6_method_9_code
def yX4_shelfSet : MethodName := ⟨RX4, "shelfSet", "()I"⟩
abbrev cX4_addOldest : ByteArray := prog_6_method_10_code
def yX4_addOldest : MethodName := ⟨RX4, "addOldest", "(I)V"⟩
abbrev cX4_addNewest : ByteArray := prog_6_method_11_code
def yX4_addNewest : MethodName := ⟨RX4, "addNewest", "(I)V"⟩
abbrev cX4_removeAt : ByteArray := prog_6_method_12_code
def yX4_removeAt : MethodName := ⟨RX4, "removeAt", "(I)V"⟩
abbrev cX4_renew : ByteArray := prog_6_method_13_code
def yX4_renew : MethodName := ⟨RX4, "renew", "(I)V"⟩
abbrev cX4_move : ByteArray := prog_6_method_14_code
def yX4_move : MethodName := ⟨RX4, "move", "(II)V"⟩
abbrev cX4_filterSet : ByteArray := prog_6_method_15_code
def yX4_filterSet : MethodName := ⟨RX4, "filterSet", "()I"⟩
def RX5 : String := "ShelfFilters$Sightings"
def TX5 : u_T := fun k => match k with
  | 0 => ("ShelfFilters$Sightings", "proxies", "[I", true)
  | 1 => ("ShelfFilters$Sightings", "sorts", "[I", true)
  | 2 => ("ShelfFilters$Sightings", "truths", "[Z", true)
  | _ => ("ShelfFilters$Sightings", "size", "I", false)
def tyX5 : Nat → FieldType := fun k => match k with
  | 0 => .array .int
  | 1 => .array .int
  | 2 => .array .boolean
  | _ => .int
abbrev wsX50 : List Cond := u_ws RX5 TX5 4
theorem nmX5 : ∀ a, a < 4 → ∀ b, b < 4 → a ≠ b → (TX5 a).2.1 ≠ (TX5 b).2.1 := by decide +kernel
theorem tyX5_ok : ∀ k, k < 4 → parseFieldDescriptor (TX5 k).2.2.1 = some (tyX5 k) := by decide +kernel
abbrev cX5_init : ByteArray := prog_7_method_1_code
def yX5_init : MethodName := ⟨RX5, "<init>", "()V"⟩
abbrev cX5_add : ByteArray := prog_7_method_2_code
def yX5_add : MethodName := ⟨RX5, "add", "(IIZ)Z"⟩
abbrev cX5_agreeing : ByteArray := prog_7_method_3_code
def yX5_agreeing : MethodName := ⟨RX5, "agreeing", "(LShelfFilters$Net;)I"⟩
abbrev cX5_agrees : ByteArray := prog_7_method_4_code
def yX5_agrees : MethodName := ⟨RX5, "agrees", "(LShelfFilters$Net;I)Z"⟩
def RX6 : String := "ShelfFilters$Text"
def TX6 : u_T := fun k => match k with
  | 0 => ("ShelfFilters$Text", "length", "I", false)
  | 1 => ("ShelfFilters$Text", "net", "LShelfFilters$Net;", true)
  | 2 => ("ShelfFilters$Text", "letters", "[I", true)
  | 3 => ("ShelfFilters$Text", "at", "I", false)
  | _ => ("ShelfFilters$Text", "digit", "I", false)
def tyX6 : Nat → FieldType := fun k => match k with
  | 0 => .int
  | 1 => .object "ShelfFilters$Net"
  | 2 => .array .int
  | 3 => .int
  | _ => .int
abbrev wsX60 : List Cond := u_ws RX6 TX6 5
theorem nmX6 : ∀ a, a < 5 → ∀ b, b < 5 → a ≠ b → (TX6 a).2.1 ≠ (TX6 b).2.1 := by decide +kernel
theorem tyX6_ok : ∀ k, k < 5 → parseFieldDescriptor (TX6 k).2.2.1 = some (tyX6 k) := by decide +kernel
abbrev cX6_init : ByteArray := prog_8_method_1_code
def yX6_init : MethodName := ⟨RX6, "<init>", "()V"⟩
abbrev cX6_append : ByteArray := prog_8_method_2_code
def yX6_append : MethodName := ⟨RX6, "append", "(I)Z"⟩
abbrev cX6_read : ByteArray := prog_8_method_3_code
def yX6_read : MethodName := ⟨RX6, "read", "()I"⟩
abbrev cX6_letter : ByteArray := prog_8_method_4_code
def yX6_letter : MethodName := ⟨RX6, "letter", "()I"⟩
abbrev cX6_pass : ByteArray := prog_8_method_5_code
def yX6_pass : MethodName := ⟨RX6, "pass", "(I)Z"⟩
abbrev cX6_passDigit : ByteArray := prog_8_method_6_code
def yX6_passDigit : MethodName := ⟨RX6, "passDigit", "(II)Z"⟩
abbrev cX6_readHead : ByteArray := prog_8_method_7_code
def yX6_readHead : MethodName := ⟨RX6, "readHead", "()Z"⟩
abbrev cX6_readPart : ByteArray := prog_8_method_8_code
def yX6_readPart : MethodName := ⟨RX6, "readPart", "()Z"⟩
abbrev cX6_readFamily : ByteArray := prog_8_method_9_code
def yX6_readFamily : MethodName := ⟨RX6, "readFamily", "()Z"⟩
abbrev cX6_readProxy : ByteArray := prog_8_method_10_code
def yX6_readProxy : MethodName := ⟨RX6, "readProxy", "()Z"⟩
abbrev cX6_readShelved : ByteArray := prog_8_method_11_code
def yX6_readShelved : MethodName := ⟨RX6, "readShelved", "()Z"⟩
abbrev cX6_mayBegin : ByteArray := prog_8_method_12_code
def yX6_mayBegin : MethodName := ⟨RX6, "mayBegin", "(LShelfFilters$Proxy;I)Z"⟩
def RX7 : String := "ShelfFilters"
def TX7 : u_T := fun k => match k with
  | 0 => ("ShelfFilters", "text", "LShelfFilters$Text;", true)
  | 1 => ("ShelfFilters", "current", "LShelfFilters$Net;", true)
  | 2 => ("ShelfFilters", "trial", "LShelfFilters$Net;", true)
  | 3 => ("ShelfFilters", "past", "LShelfFilters$Past;", true)
  | 4 => ("ShelfFilters", "slots", "[LShelfFilters$Net;", true)
  | 5 => ("ShelfFilters", "filled", "[Z", true)
  | 6 => ("ShelfFilters", "sightings", "LShelfFilters$Sightings;", true)
  | 7 => ("ShelfFilters", "tried", "LShelfFilters$Order;", true)
  | 8 => ("ShelfFilters", "cheapest", "LShelfFilters$Order;", true)
  | _ => ("ShelfFilters", "chance", "J", false)
def tyX7 : Nat → FieldType := fun k => match k with
  | 0 => .object "ShelfFilters$Text"
  | 1 => .object "ShelfFilters$Net"
  | 2 => .object "ShelfFilters$Net"
  | 3 => .object "ShelfFilters$Past"
  | 4 => .array (.object "ShelfFilters$Net")
  | 5 => .array .boolean
  | 6 => .object "ShelfFilters$Sightings"
  | 7 => .object "ShelfFilters$Order"
  | 8 => .object "ShelfFilters$Order"
  | _ => .long
abbrev wsX70 : List Cond := u_ws RX7 TX7 10
theorem nmX7 : ∀ a, a < 10 → ∀ b, b < 10 → a ≠ b → (TX7 a).2.1 ≠ (TX7 b).2.1 := by decide +kernel
theorem tyX7_ok : ∀ k, k < 10 → parseFieldDescriptor (TX7 k).2.2.1 = some (tyX7 k) := by decide +kernel
abbrev cX7_init : ByteArray := prog_1_method_1_code
def yX7_init : MethodName := ⟨RX7, "<init>", "()V"⟩
abbrev cX7_write : ByteArray := prog_1_method_2_code
def yX7_write : MethodName := ⟨RX7, "write", "(I)I"⟩
abbrev cX7_wipe : ByteArray := prog_1_method_3_code
def yX7_wipe : MethodName := ⟨RX7, "wipe", "()I"⟩
abbrev cX7_fault : ByteArray := prog_1_method_4_code
def yX7_fault : MethodName := ⟨RX7, "fault", "()I"⟩
abbrev cX7_net : ByteArray := prog_1_method_5_code
def yX7_net : MethodName := ⟨RX7, "net", "()I"⟩
abbrev cX7_proxy : ByteArray := prog_1_method_6_code
def yX7_proxy : MethodName := ⟨RX7, "proxy", "(II)I"⟩
abbrev cX7_page : ByteArray := prog_1_method_7_code
def yX7_page : MethodName := ⟨RX7, "page", "(II)I"⟩
abbrev cX7_counter : ByteArray := prog_1_method_8_code
def yX7_counter : MethodName := ⟨RX7, "counter", "(II)I"⟩
abbrev cX7_hash : ByteArray := prog_1_method_9_code
def yX7_hash : MethodName := ⟨RX7, "hash", "(III)I"⟩
abbrev cX7_says : ByteArray := prog_1_method_10_code
def yX7_says : MethodName := ⟨RX7, "says", "(IIZ)I"⟩
abbrev cX7_ask : ByteArray := prog_1_method_11_code
def yX7_ask : MethodName := ⟨RX7, "ask", "(II)I"⟩
abbrev cX7_drop : ByteArray := prog_1_method_12_code
def yX7_drop : MethodName := ⟨RX7, "drop", "(II)I"⟩
abbrev cX7_send : ByteArray := prog_1_method_13_code
def yX7_send : MethodName := ⟨RX7, "send", "(I)I"⟩
abbrev cX7_threshold : ByteArray := prog_1_method_14_code
def yX7_threshold : MethodName := ⟨RX7, "threshold", "(II)I"⟩
abbrev cX7_use : ByteArray := prog_1_method_15_code
def yX7_use : MethodName := ⟨RX7, "use", "(I)I"⟩
abbrev cX7_undo : ByteArray := prog_1_method_16_code
def yX7_undo : MethodName := ⟨RX7, "undo", "()I"⟩
abbrev cX7_weight : ByteArray := prog_1_method_17_code
def yX7_weight : MethodName := ⟨RX7, "weight", "(I)I"⟩
abbrev cX7_best : ByteArray := prog_1_method_18_code
def yX7_best : MethodName := ⟨RX7, "best", "(II)I"⟩
abbrev cX7_plan : ByteArray := prog_1_method_19_code
def yX7_plan : MethodName := ⟨RX7, "plan", "(III)I"⟩
abbrev cX7_order : ByteArray := prog_1_method_20_code
def yX7_order : MethodName := ⟨RX7, "order", "(III)I"⟩
abbrev cX7_judge : ByteArray := prog_1_method_21_code
def yX7_judge : MethodName := ⟨RX7, "judge", "(IJ)I"⟩
abbrev cX7_see : ByteArray := prog_1_method_22_code
def yX7_see : MethodName := ⟨RX7, "see", "(III)I"⟩
abbrev cX7_unsee : ByteArray := prog_1_method_23_code
def yX7_unsee : MethodName := ⟨RX7, "unsee", "()I"⟩
abbrev cX7_which : ByteArray := prog_1_method_24_code
def yX7_which : MethodName := ⟨RX7, "which", "()I"⟩
abbrev cX7_share : ByteArray := prog_1_method_25_code
def yX7_share : MethodName := ⟨RX7, "share", "(IZ)I"⟩
abbrev cX7_lost : ByteArray := prog_1_method_26_code
def yX7_lost : MethodName := ⟨RX7, "lost", "(IIIZ)I"⟩
abbrev cX7_seed : ByteArray := prog_1_method_27_code
def yX7_seed : MethodName := ⟨RX7, "seed", "(J)J"⟩
abbrev cX7_drawn : ByteArray := prog_1_method_28_code
def yX7_drawn : MethodName := ⟨RX7, "drawn", "(I)I"⟩
abbrev cX7_keep : ByteArray := prog_1_method_29_code
def yX7_keep : MethodName := ⟨RX7, "keep", "(I)I"⟩
abbrev cX7_again : ByteArray := prog_1_method_30_code
def yX7_again : MethodName := ⟨RX7, "again", "(I)I"⟩
abbrev cX7_count : ByteArray := prog_1_method_31_code
def yX7_count : MethodName := ⟨RX7, "count", "(I)I"⟩
abbrev cX7_isPage : ByteArray := prog_1_method_32_code
def yX7_isPage : MethodName := ⟨RX7, "isPage", "(I)Z"⟩
abbrev cX7_netAt : ByteArray := prog_1_method_33_code
def yX7_netAt : MethodName := ⟨RX7, "netAt", "([LShelfFilters$Net;I)LShelfFilters$Net;"⟩
abbrev cX7_copyRow : ByteArray := prog_1_method_34_code
def yX7_copyRow : MethodName := ⟨RX7, "copyRow", "([I[I)V"⟩
abbrev cX7_powerOfTen : ByteArray := prog_1_method_35_code
def yX7_powerOfTen : MethodName := ⟨RX7, "powerOfTen", "(I)J"⟩
abbrev cX7_floatBits : ByteArray := prog_1_method_36_code
def yX7_floatBits : MethodName := ⟨RX7, "floatBits", "(F)I"⟩
abbrev cX7_ofFraction : ByteArray := prog_1_method_37_code
def yX7_ofFraction : MethodName := ⟨RX7, "ofFraction", "(IIZ)I"⟩
abbrev cX7_commonDivisor : ByteArray := prog_1_method_38_code
def yX7_commonDivisor : MethodName := ⟨RX7, "commonDivisor", "(II)I"⟩
abbrev cX7_wayWeight : ByteArray := prog_1_method_39_code
def yX7_wayWeight : MethodName := ⟨RX7, "wayWeight", "(II)I"⟩
abbrev cX7_findCheapest : ByteArray := prog_1_method_40_code
def yX7_findCheapest : MethodName := ⟨RX7, "findCheapest", "(II)I"⟩
abbrev cX7_triedCost : ByteArray := prog_1_method_41_code
def yX7_triedCost : MethodName := ⟨RX7, "triedCost", "(I)I"⟩
abbrev cX7_holds : ByteArray := prog_1_method_42_code
def yX7_holds : MethodName := ⟨RX7, "holds", "(LShelfFilters$Net;I)Z"⟩
def RX8 : String := "ShelfFiltersModel"
def TX8 : u_T := fun k => match k with
  | 0 => ("ShelfFiltersModel", "thrown", "I", false)
  | 1 => ("ShelfFiltersModel", "text", "[I", true)
  | 2 => ("ShelfFiltersModel", "textSize", "I", false)
  | 3 => ("ShelfFiltersModel", "place", "I", false)
  | 4 => ("ShelfFiltersModel", "cells", "I", false)
  | 5 => ("ShelfFiltersModel", "hashes", "I", false)
  | 6 => ("ShelfFiltersModel", "families", "I", false)
  | 7 => ("ShelfFiltersModel", "a", "[I", true)
  | 8 => ("ShelfFiltersModel", "b", "[I", true)
  | 9 => ("ShelfFiltersModel", "proxies", "I", false)
  | 10 => ("ShelfFiltersModel", "room", "[I", true)
  | 11 => ("ShelfFiltersModel", "readCells", "I", false)
  | 12 => ("ShelfFiltersModel", "readHashes", "I", false)
  | 13 => ("ShelfFiltersModel", "readFamilies", "I", false)
  | 14 => ("ShelfFiltersModel", "readA", "[I", true)
  | 15 => ("ShelfFiltersModel", "readB", "[I", true)
  | 16 => ("ShelfFiltersModel", "readProxies", "I", false)
  | 17 => ("ShelfFiltersModel", "readRoom", "[I", true)
  | 18 => ("ShelfFiltersModel", "readPage", "[I", true)
  | 19 => ("ShelfFiltersModel", "page", "[I", true)
  | 20 => ("ShelfFiltersModel", "trial", "[I", true)
  | 21 => ("ShelfFiltersModel", "book", "[I", true)
  | 22 => ("ShelfFiltersModel", "doings", "I", false)
  | 23 => ("ShelfFiltersModel", "kept", "[I", true)
  | 24 => ("ShelfFiltersModel", "isKept", "[Z", true)
  | 25 => ("ShelfFiltersModel", "seen", "I", false)
  | 26 => ("ShelfFiltersModel", "seenProxy", "[I", true)
  | 27 => ("ShelfFiltersModel", "seenWhat", "[I", true)
  | 28 => ("ShelfFiltersModel", "seenWas", "[I", true)
  | 29 => ("ShelfFiltersModel", "seed", "J", false)
  | 30 => ("ShelfFiltersModel", "asked", "[I", true)
  | 31 => ("ShelfFiltersModel", "best", "[I", true)
  | _ => ("ShelfFiltersModel", "bestCost", "I", false)
def tyX8 : Nat → FieldType := fun k => match k with
  | 0 => .int
  | 1 => .array .int
  | 2 => .int
  | 3 => .int
  | 4 => .int
  | 5 => .int
  | 6 => .int
  | 7 => .array .int
  | 8 => .array .int
  | 9 => .int
  | 10 => .array .int
  | 11 => .int
  | 12 => .int
  | 13 => .int
  | 14 => .array .int
  | 15 => .array .int
  | 16 => .int
  | 17 => .array .int
  | 18 => .array .int
  | 19 => .array .int
  | 20 => .array .int
  | 21 => .array .int
  | 22 => .int
  | 23 => .array .int
  | 24 => .array .boolean
  | 25 => .int
  | 26 => .array .int
  | 27 => .array .int
  | 28 => .array .int
  | 29 => .long
  | 30 => .array .int
  | 31 => .array .int
  | _ => .int
abbrev wsX80 : List Cond := u_ws RX8 TX8 33
theorem nmX8 : ∀ a, a < 33 → ∀ b, b < 33 → a ≠ b → (TX8 a).2.1 ≠ (TX8 b).2.1 := by decide +kernel
theorem tyX8_ok : ∀ k, k < 33 → parseFieldDescriptor (TX8 k).2.2.1 = some (tyX8 k) := by decide +kernel
abbrev cX8_init : ByteArray := prog_10_method_1_code
def yX8_init : MethodName := ⟨RX8, "<init>", "()V"⟩
abbrev cX8_in : ByteArray := prog_10_method_3_code
def yX8_in : MethodName := ⟨RX8, "in", "(JJJ)Z"⟩
abbrev cX8_has : ByteArray := prog_10_method_4_code
def yX8_has : MethodName := ⟨RX8, "has", "(II)Z"⟩
abbrev cX8_ones : ByteArray := prog_10_method_5_code
def yX8_ones : MethodName := ⟨RX8, "ones", "(I)I"⟩
abbrev cX8_power : ByteArray := prog_10_method_6_code
def yX8_power : MethodName := ⟨RX8, "power", "(II)I"⟩
abbrev cX8_layTrial : ByteArray := prog_10_method_7_code
def yX8_layTrial : MethodName := ⟨RX8, "layTrial", "()V"⟩
abbrev cX8_noProxy : ByteArray := prog_10_method_8_code
def yX8_noProxy : MethodName := ⟨RX8, "noProxy", "(I)Z"⟩
abbrev cX8_noPage : ByteArray := prog_10_method_9_code
def yX8_noPage : MethodName := ⟨RX8, "noPage", "(I)Z"⟩
abbrev cX8_write : ByteArray := prog_10_method_10_code
def yX8_write : MethodName := ⟨RX8, "write", "(I)I"⟩
abbrev cX8_wipe : ByteArray := prog_10_method_11_code
def yX8_wipe : MethodName := ⟨RX8, "wipe", "()I"⟩
abbrev cX8_isFigure : ByteArray := prog_10_method_12_code
def yX8_isFigure : MethodName := ⟨RX8, "isFigure", "(II)Z"⟩
abbrev cX8_taken : ByteArray := prog_10_method_13_code
def yX8_taken : MethodName := ⟨RX8, "taken", "(I)I"⟩
abbrev cX8_readHead : ByteArray := prog_10_method_14_code
def yX8_readHead : MethodName := ⟨RX8, "readHead", "()Z"⟩
abbrev cX8_readFamily : ByteArray := prog_10_method_15_code
def yX8_readFamily : MethodName := ⟨RX8, "readFamily", "()Z"⟩
abbrev cX8_readProxy : ByteArray := prog_10_method_16_code
def yX8_readProxy : MethodName := ⟨RX8, "readProxy", "()Z"⟩
abbrev cX8_hasRoom : ByteArray := prog_10_method_17_code
def yX8_hasRoom : MethodName := ⟨RX8, "hasRoom", "(I)Z"⟩
abbrev cX8_mayCome : ByteArray := prog_10_method_18_code
def yX8_mayCome : MethodName := ⟨RX8, "mayCome", "(III)Z"⟩
abbrev cX8_readShelf : ByteArray := prog_10_method_19_code
def yX8_readShelf : MethodName := ⟨RX8, "readShelf", "()Z"⟩
abbrev cX8_readPart : ByteArray := prog_10_method_20_code
def yX8_readPart : MethodName := ⟨RX8, "readPart", "()Z"⟩
abbrev cX8_readNet : ByteArray := prog_10_method_21_code
def yX8_readNet : MethodName := ⟨RX8, "readNet", "()I"⟩
abbrev cX8_fault : ByteArray := prog_10_method_22_code
def yX8_fault : MethodName := ⟨RX8, "fault", "()I"⟩
abbrev cX8_net : ByteArray := prog_10_method_23_code
def yX8_net : MethodName := ⟨RX8, "net", "()I"⟩
abbrev cX8_hashOf : ByteArray := prog_10_method_24_code
def yX8_hashOf : MethodName := ⟨RX8, "hashOf", "(III)I"⟩
abbrev cX8_filterOf : ByteArray := prog_10_method_25_code
def yX8_filterOf : MethodName := ⟨RX8, "filterOf", "([II)I"⟩
abbrev cX8_isSaid : ByteArray := prog_10_method_26_code
def yX8_isSaid : MethodName := ⟨RX8, "isSaid", "(III)Z"⟩
abbrev cX8_summarySays : ByteArray := prog_10_method_27_code
def yX8_summarySays : MethodName := ⟨RX8, "summarySays", "([III)Z"⟩
abbrev cX8_tally : ByteArray := prog_10_method_28_code
def yX8_tally : MethodName := ⟨RX8, "tally", "([IIII)V"⟩
abbrev cX8_makeAnew : ByteArray := prog_10_method_29_code
def yX8_makeAnew : MethodName := ⟨RX8, "makeAnew", "([II)V"⟩
abbrev cX8_placeOf : ByteArray := prog_10_method_30_code
def yX8_placeOf : MethodName := ⟨RX8, "placeOf", "([III)I"⟩
abbrev cX8_freshen : ByteArray := prog_10_method_31_code
def yX8_freshen : MethodName := ⟨RX8, "freshen", "([III)V"⟩
abbrev cX8_goOut : ByteArray := prog_10_method_32_code
def yX8_goOut : MethodName := ⟨RX8, "goOut", "([III)V"⟩
abbrev cX8_comeTo : ByteArray := prog_10_method_33_code
def yX8_comeTo : MethodName := ⟨RX8, "comeTo", "([III)V"⟩
abbrev cX8_sendOn : ByteArray := prog_10_method_34_code
def yX8_sendOn : MethodName := ⟨RX8, "sendOn", "([II)V"⟩
abbrev cX8_sendDue : ByteArray := prog_10_method_35_code
def yX8_sendDue : MethodName := ⟨RX8, "sendDue", "([I)V"⟩
abbrev cX8_askOn : ByteArray := prog_10_method_36_code
def yX8_askOn : MethodName := ⟨RX8, "askOn", "([III)I"⟩
abbrev cX8_dropOn : ByteArray := prog_10_method_37_code
def yX8_dropOn : MethodName := ⟨RX8, "dropOn", "([III)V"⟩
abbrev cX8_useOn : ByteArray := prog_10_method_38_code
def yX8_useOn : MethodName := ⟨RX8, "useOn", "([II)V"⟩
abbrev cX8_shelfOf : ByteArray := prog_10_method_39_code
def yX8_shelfOf : MethodName := ⟨RX8, "shelfOf", "([II)I"⟩
abbrev cX8_falseOnes : ByteArray := prog_10_method_40_code
def yX8_falseOnes : MethodName := ⟨RX8, "falseOnes", "(III)I"⟩
abbrev cX8_denied : ByteArray := prog_10_method_41_code
def yX8_denied : MethodName := ⟨RX8, "denied", "(I)I"⟩
abbrev cX8_proxy : ByteArray := prog_10_method_42_code
def yX8_proxy : MethodName := ⟨RX8, "proxy", "(II)I"⟩
abbrev cX8_page : ByteArray := prog_10_method_43_code
def yX8_page : MethodName := ⟨RX8, "page", "(II)I"⟩
abbrev cX8_counter : ByteArray := prog_10_method_44_code
def yX8_counter : MethodName := ⟨RX8, "counter", "(II)I"⟩
abbrev cX8_hash : ByteArray := prog_10_method_45_code
def yX8_hash : MethodName := ⟨RX8, "hash", "(III)I"⟩
abbrev cX8_says : ByteArray := prog_10_method_46_code
def yX8_says : MethodName := ⟨RX8, "says", "(IIZ)I"⟩
abbrev cX8_note : ByteArray := prog_10_method_47_code
def yX8_note : MethodName := ⟨RX8, "note", "()V"⟩
abbrev cX8_ask : ByteArray := prog_10_method_48_code
def yX8_ask : MethodName := ⟨RX8, "ask", "(II)I"⟩
abbrev cX8_drop : ByteArray := prog_10_method_49_code
def yX8_drop : MethodName := ⟨RX8, "drop", "(II)I"⟩
abbrev cX8_send : ByteArray := prog_10_method_50_code
def yX8_send : MethodName := ⟨RX8, "send", "(I)I"⟩
abbrev cX8_threshold : ByteArray := prog_10_method_51_code
def yX8_threshold : MethodName := ⟨RX8, "threshold", "(II)I"⟩
abbrev cX8_use : ByteArray := prog_10_method_52_code
def yX8_use : MethodName := ⟨RX8, "use", "(I)I"⟩
abbrev cX8_undo : ByteArray := prog_10_method_53_code
def yX8_undo : MethodName := ⟨RX8, "undo", "()I"⟩
abbrev cX8_weight : ByteArray := prog_10_method_54_code
def yX8_weight : MethodName := ⟨RX8, "weight", "(I)I"⟩
abbrev cX8_madeBy : ByteArray := prog_10_method_55_code
def yX8_madeBy : MethodName := ⟨RX8, "madeBy", "(II)I"⟩
abbrev cX8_best : ByteArray := prog_10_method_56_code
def yX8_best : MethodName := ⟨RX8, "best", "(II)I"⟩
abbrev cX8_costOf : ByteArray := prog_10_method_57_code
def yX8_costOf : MethodName := ⟨RX8, "costOf", "([I)I"⟩
abbrev cX8_plan : ByteArray := prog_10_method_58_code
def yX8_plan : MethodName := ⟨RX8, "plan", "(III)I"⟩
abbrev cX8_layOrder : ByteArray := prog_10_method_59_code
def yX8_layOrder : MethodName := ⟨RX8, "layOrder", "(III)V"⟩
abbrev cX8_layBest : ByteArray := prog_10_method_60_code
def yX8_layBest : MethodName := ⟨RX8, "layBest", "(II)V"⟩
abbrev cX8_order : ByteArray := prog_10_method_61_code
def yX8_order : MethodName := ⟨RX8, "order", "(III)I"⟩
abbrev cX8_does : ByteArray := prog_10_method_62_code
def yX8_does : MethodName := ⟨RX8, "does", "(I)Z"⟩
abbrev cX8_longPower : ByteArray := prog_10_method_63_code
def yX8_longPower : MethodName := ⟨RX8, "longPower", "(JI)J"⟩
abbrev cX8_judge : ByteArray := prog_10_method_64_code
def yX8_judge : MethodName := ⟨RX8, "judge", "(IJ)I"⟩
abbrev cX8_see : ByteArray := prog_10_method_65_code
def yX8_see : MethodName := ⟨RX8, "see", "(III)I"⟩
abbrev cX8_unsee : ByteArray := prog_10_method_66_code
def yX8_unsee : MethodName := ⟨RX8, "unsee", "()I"⟩
abbrev cX8_isSo : ByteArray := prog_10_method_67_code
def yX8_isSo : MethodName := ⟨RX8, "isSo", "(II)Z"⟩
abbrev cX8_which : ByteArray := prog_10_method_68_code
def yX8_which : MethodName := ⟨RX8, "which", "()I"⟩
abbrev cX8_divisor : ByteArray := prog_10_method_69_code
def yX8_divisor : MethodName := ⟨RX8, "divisor", "(II)I"⟩
abbrev cX8_fraction : ByteArray := prog_10_method_70_code
def yX8_fraction : MethodName := ⟨RX8, "fraction", "(IIZ)I"⟩
abbrev cX8_factorial : ByteArray := prog_10_method_71_code
def yX8_factorial : MethodName := ⟨RX8, "factorial", "(I)I"⟩
abbrev cX8_hadBy : ByteArray := prog_10_method_72_code
def yX8_hadBy : MethodName := ⟨RX8, "hadBy", "(I)I"⟩
abbrev cX8_share : ByteArray := prog_10_method_73_code
def yX8_share : MethodName := ⟨RX8, "share", "(IZ)I"⟩
abbrev cX8_isRight : ByteArray := prog_10_method_74_code
def yX8_isRight : MethodName := ⟨RX8, "isRight", "(III)Z"⟩
abbrev cX8_lost : ByteArray := prog_10_method_75_code
def yX8_lost : MethodName := ⟨RX8, "lost", "(IIIZ)I"⟩
abbrev cX8_seed : ByteArray := prog_10_method_76_code
def yX8_seed : MethodName := ⟨RX8, "seed", "(J)J"⟩
abbrev cX8_drawn : ByteArray := prog_10_method_77_code
def yX8_drawn : MethodName := ⟨RX8, "drawn", "(I)I"⟩
abbrev cX8_keep : ByteArray := prog_10_method_78_code
def yX8_keep : MethodName := ⟨RX8, "keep", "(I)I"⟩
abbrev cX8_again : ByteArray := prog_10_method_79_code
def yX8_again : MethodName := ⟨RX8, "again", "(I)I"⟩
abbrev cX8_onShelves : ByteArray := prog_10_method_80_code
def yX8_onShelves : MethodName := ⟨RX8, "onShelves", "()I"⟩
abbrev cX8_count : ByteArray := prog_10_method_81_code
def yX8_count : MethodName := ⟨RX8, "count", "(I)I"⟩
def RJxf58ca : String := "java/lang/Float"
def TJxf58ca : u_T := fun k => match k with
  | _ => ("", "", "", false)
def tyJxf58ca : Nat → FieldType := fun k => match k with
  | _ => .int
abbrev wsJxf58ca0 : List Cond := u_ws RJxf58ca TJxf58ca 0
theorem nmJxf58ca : ∀ a, a < 0 → ∀ b, b < 0 → a ≠ b → (TJxf58ca a).2.1 ≠ (TJxf58ca b).2.1 := by decide +kernel
theorem tyJxf58ca_ok : ∀ k, k < 0 → parseFieldDescriptor (TJxf58ca k).2.2.1 = some (tyJxf58ca k) := by decide +kernel
abbrev cJxf58ca_isNaN_12338 : ByteArray := prog_11_method_6_code
def yJxf58ca_isNaN_12338 : MethodName := ⟨RJxf58ca, "isNaN", "(F)Z"⟩
abbrev cJxf58ca_floatToIntBits_5c35a : ByteArray := prog_11_method_24_code
def yJxf58ca_floatToIntBits_5c35a : MethodName := ⟨RJxf58ca, "floatToIntBits", "(F)I"⟩
def RJ6 : String := "java/lang/Integer"
def TJ6 : u_T := fun k => match k with
  | _ => ("", "", "", false)
def tyJ6 : Nat → FieldType := fun k => match k with
  | _ => .int
abbrev wsJ60 : List Cond := u_ws RJ6 TJ6 0
theorem nmJ6 : ∀ a, a < 0 → ∀ b, b < 0 → a ≠ b → (TJ6 a).2.1 ≠ (TJ6 b).2.1 := by decide +kernel
theorem tyJ6_ok : ∀ k, k < 0 → parseFieldDescriptor (TJ6 k).2.2.1 = some (tyJ6 k) := by decide +kernel
abbrev cJ6_bitCount_0f7a4 : ByteArray := prog_12_method_49_code
def yJ6_bitCount_0f7a4 : MethodName := ⟨RJ6, "bitCount", "(I)I"⟩
def RJ9 : String := "java/lang/Math"
def TJ9 : u_T := fun k => match k with
  | _ => ("", "", "", false)
def tyJ9 : Nat → FieldType := fun k => match k with
  | _ => .int
abbrev wsJ90 : List Cond := u_ws RJ9 TJ9 0
theorem nmJ9 : ∀ a, a < 0 → ∀ b, b < 0 → a ≠ b → (TJ9 a).2.1 ≠ (TJ9 b).2.1 := by decide +kernel
theorem tyJ9_ok : ∀ k, k < 0 → parseFieldDescriptor (TJ9 k).2.2.1 = some (tyJ9 k) := by decide +kernel
abbrev cJ9_min_7cf53 : ByteArray := prog_13_method_69_code
def yJ9_min_7cf53 : MethodName := ⟨RJ9, "min", "(II)I"⟩
def RL : String := "ShelfFiltersLaw"
abbrev cL_law : ByteArray := code
def yL_law : MethodName := ⟨RL, "law", "([I)Z"⟩
abbrev vwCl : List vw_C := [(RX0, TX0, 6), (RX1, TX1, 7), (RX2, TX2, 2), (RX3, TX3, 3), (RX4, TX4, 7), (RX5, TX5, 4), (RX6, TX6, 5), (RX7, TX7, 10), (RX8, TX8, 33)]
end
section
/-- the words of the tables that any method may be asked for -/
def gTbl : List Cond := lw_tbl.filter goodWord
theorem gTbl_of {w : Cond} (h : w ∈ lw_tbl) (hg : goodWord w = true) : w ∈ gTbl := List.mem_filter.mpr ⟨h, hg⟩
def nwL : List (String × Nat × MethodName × String) := [(RX7, 9, yX6_init, "ShelfFilters"), (RX1, 11, yX0_init, "ShelfFilters"), (RX1, 40, yX4_init, "ShelfFilters"), (RX7, 43, yX5_init, "ShelfFilters"), (RX7, 50, yX2_init, "ShelfFilters"), (RX6, 101, yX7_isPage, "ShelfFilters"), (RX0, 31, yX7_copyRow, "ShelfFilters"), (RX4, 34, yX7_copyRow, "ShelfFilters"), (RX3, 25, yX7_netAt, "ShelfFilters"), (RX2, 19, yX7_copyRow, "ShelfFilters")]
def NW (U : State) : Prop := ∀ q ∈ nwL, va_Nw (.methodLinkNest q.1 q.2.1 q.2.2.1 q.2.2.2) U
/-! the shadow state: ints of every object and array by address and place, longs by address -/
abbrev HI : Type := Nat → Nat → Int32
abbrev HJ : Type := Nat → Int64
def uR (f : Nat → Int32) (k : Nat) (v : Int32) : Nat → Int32 := fun k' => if k' = k then v else f k'
def sI (I : HI) (a k : Nat) (v : Int32) : HI := fun a' => if a' = a then uR (I a) k v else I a'
def sJ (J : HJ) (a : Nat) (v : Int64) : HJ := fun a' => if a' = a then v else J a'
/-- kinds by address, addresses, class numbers -/
abbrev GX : Type := (Nat → Nat) × List Nat × va_G × ClassId × ClassId × ClassId × ClassId
abbrev gK (G : GX) : Nat → Nat := G.1
abbrev gL (G : GX) : List Nat := G.2.1
abbrev gD (G : GX) : va_G := G.2.2.1
abbrev gcI (G : GX) : ClassId := G.2.2.2.1
abbrev gcZ (G : GX) : ClassId := G.2.2.2.2.1
abbrev gcP (G : GX) : ClassId := G.2.2.2.2.2.1
abbrev gcN (G : GX) : ClassId := G.2.2.2.2.2.2
def gT (G : GX) : List (ClassId × FieldType) := [(gcI G, .int), (gcZ G, .boolean), (gcP G, .object "ShelfFilters$Proxy"), (gcN G, .object "ShelfFilters$Net")]
/-- what an object of a kind holds: its ints out of its row, its references by the layout -/
def fsR (f : Nat → Int32) (j : Int64) (a : Nat) : Nat → List Value
  | 1 => [.int (f 0), .int (f 1), .int (f 2), .int (f 3), .ref (a + 1), .ref (a + 2)]
  | 2 => [.ref (a + 1), .ref (a + 4), .int (f 2), .int (f 3), .int (f 4), .int (f 5), .int (f 6)]
  | 3 => [.int (f 0), .ref (a + 1)]
  | 4 => [.ref (a + 1), .int (f 1), .int (f 2)]
  | 5 => [.int (f 0), .int (f 1), .int (f 2), .int (f 3), .int (f 4), .ref (a + 1), .ref (a + 2)]
  | 6 => [.ref (a + 1), .ref (a + 2), .ref (a + 3), .int (f 3)]
  | 7 => [.int (f 0), .ref (a + 1), .ref (a + 18), .int (f 3), .int (f 4)]
  | 8 => [.ref (a + 1), .ref (a + 20), .ref (a + 37), .ref (a + 54), .ref (a + 294), .ref (a + 295), .ref (a + 296), .ref (a + 300), .ref (a + 302), .long j]
  | 9 => [.int (f 0), .ref (a + 1), .int (f 2), .int (f 3), .int (f 4), .int (f 5), .int (f 6), .ref (a + 2), .ref (a + 3), .int (f 9), .ref (a + 4), .int (f 11), .int (f 12), .int (f 13), .ref (a + 5), .ref (a + 6), .int (f 16), .ref (a + 7), .ref (a + 8), .ref (a + 9), .ref (a + 10), .ref (a + 11), .int (f 22), .ref (a + 12), .ref (a + 13), .int (f 25), .ref (a + 14), .ref (a + 15), .ref (a + 16), .long j, .ref (a + 17), .ref (a + 18), .int (f 32)]
  | _ => []
def eR (G : GX) (f : Nat → Int32) (j : Int64) (a : Nat) : va_E :=
  if gK G a < 10 then .inr (gK G a - 1, fsR f j a (gK G a))
  else if gK G a = 10 then .inl (gcP G, 4, .inr (.inr (.inr (.inr (fun i => some (a + 1 + 3 * i))))))
  else if gK G a = 11 then .inl (gcN G, 14, .inr (.inr (.inr (.inr (fun i => some (a + 1 + 17 * i))))))
  else if gK G a = 12 then .inl (gcN G, 2, .inr (.inr (.inr (.inr (fun i => some (a + 10 + 17 * i))))))
  else if gK G a < 100 then .inl (gcZ G, gK G a - 50, .inl f)
  else .inl (gcI G, gK G a - 100, .inl f)
def eK (G : GX) (I : HI) (J : HJ) (a : Nat) : va_E := eR G (I a) (J a) a
/-- the closure of the kinds -/
def clo (K : Nat → Nat) : Prop := ∀ a, (K a = 1 → K (a + 1) = 103 ∧ K (a + 2) = 103)
  ∧ (K a = 2 → K (a + 1) = 1 ∧ K (a + 4) = 10)
  ∧ (K a = 3 → K (a + 1) = 105)
  ∧ (K a = 4 → K (a + 1) = 11)
  ∧ (K a = 5 → K (a + 1) = 109 ∧ K (a + 2) = 116)
  ∧ (K a = 6 → K (a + 1) = 106 ∧ K (a + 2) = 106 ∧ K (a + 3) = 56)
  ∧ (K a = 7 → K (a + 1) = 2 ∧ K (a + 18) = 200)
  ∧ (K a = 8 → K (a + 1) = 7 ∧ K (a + 20) = 2 ∧ K (a + 37) = 2 ∧ K (a + 54) = 4 ∧ K (a + 294) = 12 ∧ K (a + 295) = 52 ∧ K (a + 296) = 6 ∧ K (a + 300) = 3 ∧ K (a + 302) = 3)
  ∧ (K a = 9 → K (a + 1) = 200 ∧ K (a + 2) = 103 ∧ K (a + 3) = 103 ∧ K (a + 4) = 104 ∧ K (a + 5) = 103 ∧ K (a + 6) = 103 ∧ K (a + 7) = 104 ∧ K (a + 8) = 221 ∧ K (a + 9) = 221 ∧ K (a + 10) = 221 ∧ K (a + 11) = 1794 ∧ K (a + 12) = 342 ∧ K (a + 13) = 52 ∧ K (a + 14) = 106 ∧ K (a + 15) = 106 ∧ K (a + 16) = 106 ∧ K (a + 17) = 105 ∧ K (a + 18) = 105)
  ∧ (K a = 10 → ∀ i, i < 4 → K (a + 1 + 3 * i) = 5)
  ∧ (K a = 11 → ∀ i, i < 14 → K (a + 1 + 17 * i) = 2)
  ∧ (K a = 12 → ∀ i, i < 2 → K (a + 10 + 17 * i) = 2)
def OKG (G : GX) : Prop := (gL G).Nodup ∧ (∀ a, gK G a ≠ 0 → a ∈ gL G) ∧ clo (gK G)
def Wd (G : GX) (I : HI) (J : HJ) (H : Heap) : Prop := va_P (gD G) vwCl (va_pl (gL G) (eK G I J)) H
/-- the place where a method stands -/
abbrev CX : Type := GX × Launch × Program × Env × Room × State × MethodId × Array Value × List Frame × Method × Code × (State → Prop) × (Nat → Prop) × Nat × Nat × Nat
abbrev xG (X : CX) := X.1
abbrev xl (X : CX) := X.2.1
abbrev xp (X : CX) := X.2.2.1
abbrev xe (X : CX) := X.2.2.2.1
abbrev xR (X : CX) := X.2.2.2.2.1
abbrev xs (X : CX) := X.2.2.2.2.2.1
abbrev xm (X : CX) := X.2.2.2.2.2.2.1
abbrev xa (X : CX) := X.2.2.2.2.2.2.2.1
abbrev xb (X : CX) := X.2.2.2.2.2.2.2.2.1
abbrev xM (X : CX) := X.2.2.2.2.2.2.2.2.2.1
abbrev xc (X : CX) := X.2.2.2.2.2.2.2.2.2.2.1
abbrev xQ (X : CX) := X.2.2.2.2.2.2.2.2.2.2.2.1
abbrev xA (X : CX) := X.2.2.2.2.2.2.2.2.2.2.2.2.1
abbrev xk (X : CX) := X.2.2.2.2.2.2.2.2.2.2.2.2.2.1
abbrev xn (X : CX) := X.2.2.2.2.2.2.2.2.2.2.2.2.2.2.1
abbrev xN (X : CX) := X.2.2.2.2.2.2.2.2.2.2.2.2.2.2.2
/-- W at a place -/
abbrev WX (X : CX) (H : Heap) (locs : List Loc) (pc : Nat) (ls : Array Slot) (st : List Value) : Prop := W (xp X) (xl X) (xe X) (xR X) (xs X) (xm X) (xa X) (xb X) (xM X) (xc X) H locs (xk X) (xn X) (xQ X) (F0 (xm X) pc ls st)
/-- the locals by their places -/
def lvA : Nat → List (Option Value) → List (Nat × Value)
  | _, [] => []
  | k, none :: t => lvA (k + 1) t
  | k, some v :: t => (k, v) :: lvA (k + 1) t
theorem lvA_mem : ∀ (l : List (Option Value)) (n k : Nat) (v : Value), (k, v) ∈ lvA n l ↔ n ≤ k ∧ l[k - n]? = some (some v)
  | [], n, k, v => by simp [lvA]
  | none :: t, n, k, v => by
    rw [lvA, lvA_mem t (n + 1) k v]
    constructor
    · rintro ⟨h1, h2⟩
      refine ⟨by omega, ?_⟩
      rw [show k - n = (k - (n + 1)) + 1 by omega]; exact h2
    · rintro ⟨h1, h2⟩
      rcases Nat.lt_or_eq_of_le h1 with h | h
      · refine ⟨by omega, ?_⟩
        rw [show k - n = (k - (n + 1)) + 1 by omega] at h2; exact h2
      · subst h; simp at h2
  | some u :: t, n, k, v => by
    rw [lvA, List.mem_cons, lvA_mem t (n + 1) k v]
    constructor
    · rintro (h | ⟨h1, h2⟩)
      · cases h; exact ⟨Nat.le_refl _, by simp⟩
      · refine ⟨by omega, ?_⟩
        rw [show k - n = (k - (n + 1)) + 1 by omega]; exact h2
    · rintro ⟨h1, h2⟩
      rcases Nat.lt_or_eq_of_le h1 with h | h
      · right
        refine ⟨by omega, ?_⟩
        rw [show k - n = (k - (n + 1)) + 1 by omega] at h2; exact h2
      · left; subst h; simp at h2; subst h2; rfl
def lvH (ls : Array Slot) (nL : Nat) (lv : List (Option Value)) : Prop := lv_has ls nL (lvA 0 lv)
theorem lvH.at {ls nL lv} (h : lvH ls nL lv) {k : Nat} {v : Value} (hk : lv[k]? = some (some v)) : ls[k]? = some (.val v) := h.2.2 (k, v) ((lvA_mem lv 0 k v).mpr ⟨Nat.zero_le _, hk⟩)
/-- the place below holds no long -/
def c1 (lv : List (Option Value)) : Nat → Bool
  | 0 => true
  | j + 1 => match lv[j]? with
    | some (some v) => v.category == 1
    | _ => true
theorem lvH.of_sub {ls nL} {l : List (Nat × Value)} {lv : List (Option Value)} (h : lv_has ls nL l) (hs : ∀ q ∈ lvA 0 lv, q ∈ l) : lvH ls nL lv := ⟨h.1, h.2.1, fun q hq => h.2.2 q (hs q hq)⟩
theorem lvH.set1 {ls nL lv} {k : Nat} {v : Value} (hc : c1 lv k = true) (h : lv_has ls nL ((k, v) :: (lvA 0 lv).filter (fun q => !(q.1 == k) && !(q.1 + 1 == k && q.2.category == 2)))) : lvH ls nL (lv.set k (some v)) := by
  refine lvH.of_sub h fun q hq => ?_
  obtain ⟨j, u⟩ := q
  have h1 := ((lvA_mem _ 0 j u).mp hq).2
  rw [Nat.sub_zero, List.getElem?_set] at h1
  by_cases hj : k = j
  · subst hj
    by_cases hl : k < lv.length
    · simp [hl] at h1; subst h1; exact List.mem_cons_self
    · simp [hl] at h1
  · rw [if_neg hj] at h1
    refine List.mem_cons_of_mem _ (List.mem_filter.mpr ⟨(lvA_mem lv 0 j u).mpr ⟨Nat.zero_le _, h1⟩, ?_⟩)
    have hj' : ¬ j = k := fun e => hj e.symm
    by_cases hk : j + 1 = k
    · subst hk
      simp [c1, h1] at hc
      simp [hc]
    · simp [hj', hk]
theorem lvH.set2 {ls nL lv} {k : Nat} {v : Value} (hc : c1 lv k = true) (h : lv_has ls nL ((k, v) :: (lvA 0 lv).filter (fun q => !(q.1 == k) && (!(q.1 == k + 1) && !(q.1 + 1 == k && q.2.category == 2))))) : lvH ls nL ((lv.set k (some v)).set (k + 1) none) := by
  refine lvH.of_sub h fun q hq => ?_
  obtain ⟨j, u⟩ := q
  have h1 := ((lvA_mem _ 0 j u).mp hq).2
  rw [Nat.sub_zero, List.getElem?_set] at h1
  by_cases hj2 : k + 1 = j
  · subst hj2
    rw [if_pos rfl] at h1
    split at h1 <;> simp at h1
  · rw [if_neg hj2, List.getElem?_set] at h1
    by_cases hj : k = j
    · subst hj
      by_cases hl : k < lv.length
      · simp [hl] at h1; subst h1; exact List.mem_cons_self
      · simp [hl] at h1
    · rw [if_neg hj] at h1
      refine List.mem_cons_of_mem _ (List.mem_filter.mpr ⟨(lvA_mem lv 0 j u).mpr ⟨Nat.zero_le _, h1⟩, ?_⟩)
      have hj' : ¬ j = k := fun e => hj e.symm
      have hj2' : ¬ j = k + 1 := fun e => hj2 e.symm
      by_cases hk : j + 1 = k
      · subst hk
        simp [c1, h1] at hc
        simp [hc]
        omega
      · simp [hj', hj2', hk]
/-- fewer locals -/
def lmask : List Bool → List (Option Value) → List (Option Value)
  | true :: m, v :: t => v :: lmask m t
  | false :: m, _ :: t => none :: lmask m t
  | _, _ => []
theorem lmask_get : ∀ (m : List Bool) (l : List (Option Value)) (k : Nat) (v : Value), (lmask m l)[k]? = some (some v) → l[k]? = some (some v)
  | [], l, k, v, h => by simp [lmask] at h
  | true :: m, [], k, v, h => by simp [lmask] at h
  | false :: m, [], k, v, h => by simp [lmask] at h
  | true :: m, x :: t, 0, v, h => by simpa [lmask] using h
  | true :: m, x :: t, k + 1, v, h => by simp only [lmask, List.getElem?_cons_succ] at h ⊢; exact lmask_get m t k v h
  | false :: m, x :: t, 0, v, h => by simp [lmask] at h
  | false :: m, x :: t, k + 1, v, h => by simp only [lmask, List.getElem?_cons_succ] at h ⊢; exact lmask_get m t k v h
theorem lvH.mask {ls nL lv} (m : List Bool) (h : lvH ls nL lv) : lvH ls nL (lmask m lv) := lvH.of_sub h fun q hq => by
  obtain ⟨j, u⟩ := q
  have h1 := ((lvA_mem _ 0 j u).mp hq).2
  exact (lvA_mem lv 0 j u).mpr ⟨Nat.zero_le _, lmask_get m lv _ u h1⟩
/-- the machine at a place, over a shadow state -/
def V (X : CX) (I : HI) (J : HJ) (pc : Nat) (lv : List (Option Value)) (st : List Value) : Prop := ∀ (H : Heap) (locs : List Loc) (ls : Array Slot), Wd (xG X) I J H → va_S (xA X) (xs X).heap H locs → lvH ls (xN X) lv → WX X H locs pc ls st
/-- what stands fast in a method: code cc of class own, d frames and loc locals of room, nL locals -/
def OKX (X : CX) (cc : ByteArray) (own : String) (d loc nL : Nat) : Prop :=
  (xp X).tables.exec = Jvm.exec ∧ (xc X).code = cc ∧ (xc X).maxLocals = nL ∧ (xs X).vm.findClass own = some (xm X).cls ∧ (∀ w ∈ gTbl, w.before (xa X) (xs X) = true) ∧ va_K (gD (xG X)) vwCl (gT (xG X)) (xs X) ∧ OKG (xG X) ∧ (∀ q ∈ gL (xG X), xA X q) ∧ xN X = nL ∧ d ≤ (xR X).frames ∧ loc ≤ (xR X).locals ∧ xk X ≤ (xR X).cells ∧ xn X ≤ (xR X).slots ∧ NW (xs X)
section Rows
variable {X : CX} {I : HI} {J : HJ} {pc : Nat} {lv : List (Option Value)} {st : List Value} {cc : ByteArray} {own : String} {d loc nL : Nat}
theorem V.mask (m : List Bool) (h : V X I J pc (lmask m lv) st) : V X I J pc lv st := fun H locs ls a b c => h H locs ls a b (c.mask m)
theorem V.lvc {lv' : List (Option Value)} (e : lv = lv') (h : V X I J pc lv' st) : V X I J pc lv st := e ▸ h
theorem r_iconst (hX : OKX X cc own d loc nL) {n : Int} {v : Int32} (hd : decode cc pc = .ok (.iconst n, 1)) (hv : Int32.ofInt n = v) (k : V X I J (pc + 1) lv (.int v :: st)) : V X I J pc lv (st) := by
  obtain ⟨hx, hb, -⟩ := hX
  intro H locs ls hW hS hl
  exact lv_iconst hx hb hd hv (k H locs ls hW hS hl)
theorem r_bipush (hX : OKX X cc own d loc nL) {n : Int} {v : Int32} (hd : decode cc pc = .ok (.bipush n, 2)) (hv : (Int8.ofInt n).toInt32 = v) (k : V X I J (pc + 2) lv (.int v :: st)) : V X I J pc lv (st) := by
  obtain ⟨hx, hb, -⟩ := hX
  intro H locs ls hW hS hl
  exact lv_bipush hx hb hd hv (k H locs ls hW hS hl)
theorem r_sipush (hX : OKX X cc own d loc nL) {n : Int} {v : Int32} (hd : decode cc pc = .ok (.sipush n, 3)) (hv : (Int16.ofInt n).toInt32 = v) (k : V X I J (pc + 3) lv (.int v :: st)) : V X I J pc lv (st) := by
  obtain ⟨hx, hb, -⟩ := hX
  intro H locs ls hW hS hl
  exact lv_sipush hx hb hd hv (k H locs ls hW hS hl)
theorem r_lconst (hX : OKX X cc own d loc nL) {n : Fin 2} {v : Int64} (hd : decode cc pc = .ok (.lconst n, 1)) (hv : Int64.ofNat (n : Nat) = v) (k : V X I J (pc + 1) lv (.long v :: st)) : V X I J pc lv (st) := by
  obtain ⟨hx, hb, -⟩ := hX
  intro H locs ls hW hS hl
  exact lv_lconst hx hb hd hv (k H locs ls hW hS hl)
theorem r_fconst0 (hX : OKX X cc own d loc nL)  (hd : decode cc pc = .ok (.fconst 0, 1))  (k : V X I J (pc + 1) lv (.float FP.fconst0 :: st)) : V X I J pc lv (st) := by
  obtain ⟨hx, hb, -⟩ := hX
  intro H locs ls hW hS hl
  exact lv_fconst0 hx hb hd  (k H locs ls hW hS hl)
theorem r_fconst1 (hX : OKX X cc own d loc nL)  (hd : decode cc pc = .ok (.fconst 1, 1))  (k : V X I J (pc + 1) lv (.float FP.fconst1 :: st)) : V X I J pc lv (st) := by
  obtain ⟨hx, hb, -⟩ := hX
  intro H locs ls hW hS hl
  exact lv_fconst1 hx hb hd  (k H locs ls hW hS hl)
theorem r_fconst2 (hX : OKX X cc own d loc nL)  (hd : decode cc pc = .ok (.fconst 2, 1))  (k : V X I J (pc + 1) lv (.float FP.fconst2 :: st)) : V X I J pc lv (st) := by
  obtain ⟨hx, hb, -⟩ := hX
  intro H locs ls hW hS hl
  exact lv_fconst2 hx hb hd  (k H locs ls hW hS hl)
theorem r_null (hX : OKX X cc own d loc nL)  (hd : decode cc pc = .ok (.aconst_null, 1))  (k : V X I J (pc + 1) lv (.null :: st)) : V X I J pc lv (st) := by
  obtain ⟨hx, hb, -⟩ := hX
  intro H locs ls hW hS hl
  exact lv_null hx hb hd  (k H locs ls hW hS hl)
theorem r_ldc (hX : OKX X cc own d loc nL) {idx : Nat} {v : Int32} (hd : decode cc pc = .ok (.ldc idx, 2)) (hc : Cond.constant own idx v ∈ gTbl) (k : V X I J (pc + 2) lv (.int v :: st)) : V X I J pc lv st := by
  obtain ⟨hx, hb, -, ho, hts, -⟩ := hX
  intro H locs ls hW hS hl
  exact lv_ldc hx hb ho (hts _ hc) hd (k H locs ls hW hS hl)
theorem r_ldcw (hX : OKX X cc own d loc nL) {idx : Nat} {v : Int32} (hd : decode cc pc = .ok (.ldc_w idx, 3)) (hc : Cond.constant own idx v ∈ gTbl) (k : V X I J (pc + 3) lv (.int v :: st)) : V X I J pc lv st := by
  obtain ⟨hx, hb, -, ho, hts, -⟩ := hX
  intro H locs ls hW hS hl
  exact lv_ldcw hx hb ho (hts _ hc) hd (k H locs ls hW hS hl)
theorem r_ldcf (hX : OKX X cc own d loc nL) {idx : Nat} {v : UInt32} (hd : decode cc pc = .ok (.ldc idx, 2)) (hc : Cond.constantFloat own idx v ∈ gTbl) (k : V X I J (pc + 2) lv (.float v :: st)) : V X I J pc lv st := by
  obtain ⟨hx, hb, -, ho, hts, -⟩ := hX
  intro H locs ls hW hS hl
  exact lv_ldcf hx hb ho (hts _ hc) hd (k H locs ls hW hS hl)
theorem r_ldc2 (hX : OKX X cc own d loc nL) {idx : Nat} {v : Int64} (hd : decode cc pc = .ok (.ldc2_w idx, 3)) (hc : Cond.constantLong own idx v ∈ gTbl) (k : V X I J (pc + 3) lv (.long v :: st)) : V X I J pc lv st := by
  obtain ⟨hx, hb, -, ho, hts, -⟩ := hX
  intro H locs ls hW hS hl
  exact lv_ldc2 hx hb ho (hts _ hc) hd (k H locs ls hW hS hl)
theorem r_iload_n (hX : OKX X cc own d loc nL) {k : Fin 4} {x : Int32} (hd : decode cc pc = .ok (.iload_n k, 1)) (h : lv[(k : Nat)]? = some (some (.int x))) (kk : V X I J (pc + 1) lv (.int x :: st)) : V X I J pc lv st := by
  obtain ⟨hx, hb, -⟩ := hX
  intro H locs ls hW hS hl
  exact lv_iload_n hx hb hd rfl (hl.at h) (kk H locs ls hW hS hl)
theorem r_iload (hX : OKX X cc own d loc nL) {i : Nat} {x : Int32} (hd : decode cc pc = .ok (.iload i, 2)) (h : lv[i]? = some (some (.int x))) (kk : V X I J (pc + 2) lv (.int x :: st)) : V X I J pc lv st := by
  obtain ⟨hx, hb, -⟩ := hX
  intro H locs ls hW hS hl
  exact lv_iload hx hb hd (hl.at h) (kk H locs ls hW hS hl)
theorem r_lload_n (hX : OKX X cc own d loc nL) {k : Fin 4} {x : Int64} (hd : decode cc pc = .ok (.lload_n k, 1)) (h : lv[(k : Nat)]? = some (some (.long x))) (kk : V X I J (pc + 1) lv (.long x :: st)) : V X I J pc lv st := by
  obtain ⟨hx, hb, -⟩ := hX
  intro H locs ls hW hS hl
  exact lv_lload_n hx hb hd rfl (hl.at h) (kk H locs ls hW hS hl)
theorem r_lload (hX : OKX X cc own d loc nL) {i : Nat} {x : Int64} (hd : decode cc pc = .ok (.lload i, 2)) (h : lv[i]? = some (some (.long x))) (kk : V X I J (pc + 2) lv (.long x :: st)) : V X I J pc lv st := by
  obtain ⟨hx, hb, -⟩ := hX
  intro H locs ls hW hS hl
  exact lv_lload hx hb hd (hl.at h) (kk H locs ls hW hS hl)
theorem r_fload_n (hX : OKX X cc own d loc nL) {k : Fin 4} {x : UInt32} (hd : decode cc pc = .ok (.fload_n k, 1)) (h : lv[(k : Nat)]? = some (some (.float x))) (kk : V X I J (pc + 1) lv (.float x :: st)) : V X I J pc lv st := by
  obtain ⟨hx, hb, -⟩ := hX
  intro H locs ls hW hS hl
  exact lv_fload_n hx hb hd rfl (hl.at h) (kk H locs ls hW hS hl)
theorem r_fload (hX : OKX X cc own d loc nL) {i : Nat} {x : UInt32} (hd : decode cc pc = .ok (.fload i, 2)) (h : lv[i]? = some (some (.float x))) (kk : V X I J (pc + 2) lv (.float x :: st)) : V X I J pc lv st := by
  obtain ⟨hx, hb, -⟩ := hX
  intro H locs ls hW hS hl
  exact lv_fload hx hb hd (hl.at h) (kk H locs ls hW hS hl)
theorem r_aload_n (hX : OKX X cc own d loc nL) {k : Fin 4} {x : Nat} (hd : decode cc pc = .ok (.aload_n k, 1)) (h : lv[(k : Nat)]? = some (some (.ref x))) (kk : V X I J (pc + 1) lv (.ref x :: st)) : V X I J pc lv st := by
  obtain ⟨hx, hb, -⟩ := hX
  intro H locs ls hW hS hl
  exact lv_aload_n hx hb hd rfl (hl.at h) (kk H locs ls hW hS hl)
theorem r_aload (hX : OKX X cc own d loc nL) {i : Nat} {x : Nat} (hd : decode cc pc = .ok (.aload i, 2)) (h : lv[i]? = some (some (.ref x))) (kk : V X I J (pc + 2) lv (.ref x :: st)) : V X I J pc lv st := by
  obtain ⟨hx, hb, -⟩ := hX
  intro H locs ls hW hS hl
  exact lv_aload hx hb hd (hl.at h) (kk H locs ls hW hS hl)
theorem r_aload_nN (hX : OKX X cc own d loc nL) {k : Fin 4} (hd : decode cc pc = .ok (.aload_n k, 1)) (h : lv[(k : Nat)]? = some (some .null)) (kk : V X I J (pc + 1) lv (.null :: st)) : V X I J pc lv st := by
  obtain ⟨hx, hb, -⟩ := hX
  intro H locs ls hW hS hl
  exact lv_aload_nN hx hb hd rfl (hl.at h) (kk H locs ls hW hS hl)
theorem r_aloadN (hX : OKX X cc own d loc nL) {i : Nat} (hd : decode cc pc = .ok (.aload i, 2)) (h : lv[i]? = some (some .null)) (kk : V X I J (pc + 2) lv (.null :: st)) : V X I J pc lv st := by
  obtain ⟨hx, hb, -⟩ := hX
  intro H locs ls hW hS hl
  exact lv_aloadN hx hb hd (hl.at h) (kk H locs ls hW hS hl)
theorem r_istore_n (hX : OKX X cc own d loc nL) {k : Fin 4} {x : Int32} (hd : decode cc pc = .ok (.istore_n k, 1)) (hn : Nat.blt k nL = true) (hc : c1 lv k = true) (kk : V X I J (pc + 1) (lv.set k (some (.int x))) st) : V X I J pc lv (.int x :: st) := by
  obtain ⟨hx, hb, -, -, -, -, -, -, hN, -⟩ := hX
  intro H locs ls hW hS hl
  have hl0 : lv_has ls (xN X) (lvA 0 lv) := hl
  exact lv_istore_n hx hb hd rfl hl0 (by rw [hN]; exact Nat.le_of_ble_eq_true hn) rfl (fun ls2 h2 => kk H locs ls2 hW hS (lvH.set1 hc h2))
theorem r_istore (hX : OKX X cc own d loc nL) {k : Nat} {x : Int32} (hd : decode cc pc = .ok (.istore k, 2)) (hn : Nat.blt k nL = true) (hc : c1 lv k = true) (kk : V X I J (pc + 2) (lv.set k (some (.int x))) st) : V X I J pc lv (.int x :: st) := by
  obtain ⟨hx, hb, -, -, -, -, -, -, hN, -⟩ := hX
  intro H locs ls hW hS hl
  have hl0 : lv_has ls (xN X) (lvA 0 lv) := hl
  exact lv_istore hx hb hd hl0 (by rw [hN]; exact Nat.le_of_ble_eq_true hn) rfl (fun ls2 h2 => kk H locs ls2 hW hS (lvH.set1 hc h2))
theorem r_fstore_n (hX : OKX X cc own d loc nL) {k : Fin 4} {x : UInt32} (hd : decode cc pc = .ok (.fstore_n k, 1)) (hn : Nat.blt k nL = true) (hc : c1 lv k = true) (kk : V X I J (pc + 1) (lv.set k (some (.float x))) st) : V X I J pc lv (.float x :: st) := by
  obtain ⟨hx, hb, -, -, -, -, -, -, hN, -⟩ := hX
  intro H locs ls hW hS hl
  have hl0 : lv_has ls (xN X) (lvA 0 lv) := hl
  exact lv_fstore_n hx hb hd rfl hl0 (by rw [hN]; exact Nat.le_of_ble_eq_true hn) rfl (fun ls2 h2 => kk H locs ls2 hW hS (lvH.set1 hc h2))
theorem r_fstore (hX : OKX X cc own d loc nL) {k : Nat} {x : UInt32} (hd : decode cc pc = .ok (.fstore k, 2)) (hn : Nat.blt k nL = true) (hc : c1 lv k = true) (kk : V X I J (pc + 2) (lv.set k (some (.float x))) st) : V X I J pc lv (.float x :: st) := by
  obtain ⟨hx, hb, -, -, -, -, -, -, hN, -⟩ := hX
  intro H locs ls hW hS hl
  have hl0 : lv_has ls (xN X) (lvA 0 lv) := hl
  exact lv_fstore hx hb hd hl0 (by rw [hN]; exact Nat.le_of_ble_eq_true hn) rfl (fun ls2 h2 => kk H locs ls2 hW hS (lvH.set1 hc h2))
theorem r_astore_n (hX : OKX X cc own d loc nL) {k : Fin 4} {x : Nat} (hd : decode cc pc = .ok (.astore_n k, 1)) (hn : Nat.blt k nL = true) (hc : c1 lv k = true) (kk : V X I J (pc + 1) (lv.set k (some (.ref x))) st) : V X I J pc lv (.ref x :: st) := by
  obtain ⟨hx, hb, -, -, -, -, -, -, hN, -⟩ := hX
  intro H locs ls hW hS hl
  have hl0 : lv_has ls (xN X) (lvA 0 lv) := hl
  exact lv_astore_n hx hb hd rfl hl0 (by rw [hN]; exact Nat.le_of_ble_eq_true hn) rfl (fun ls2 h2 => kk H locs ls2 hW hS (lvH.set1 hc h2))
theorem r_astore (hX : OKX X cc own d loc nL) {k : Nat} {x : Nat} (hd : decode cc pc = .ok (.astore k, 2)) (hn : Nat.blt k nL = true) (hc : c1 lv k = true) (kk : V X I J (pc + 2) (lv.set k (some (.ref x))) st) : V X I J pc lv (.ref x :: st) := by
  obtain ⟨hx, hb, -, -, -, -, -, -, hN, -⟩ := hX
  intro H locs ls hW hS hl
  have hl0 : lv_has ls (xN X) (lvA 0 lv) := hl
  exact lv_astore hx hb hd hl0 (by rw [hN]; exact Nat.le_of_ble_eq_true hn) rfl (fun ls2 h2 => kk H locs ls2 hW hS (lvH.set1 hc h2))
theorem r_astore_nN (hX : OKX X cc own d loc nL) {k : Fin 4} (hd : decode cc pc = .ok (.astore_n k, 1)) (hn : Nat.blt k nL = true) (hc : c1 lv k = true) (kk : V X I J (pc + 1) (lv.set k (some .null)) st) : V X I J pc lv (.null :: st) := by
  obtain ⟨hx, hb, -, -, -, -, -, -, hN, -⟩ := hX
  intro H locs ls hW hS hl
  have hl0 : lv_has ls (xN X) (lvA 0 lv) := hl
  exact lv_astore_nN hx hb hd rfl hl0 (by rw [hN]; exact Nat.le_of_ble_eq_true hn) rfl (fun ls2 h2 => kk H locs ls2 hW hS (lvH.set1 hc h2))
theorem r_astoreN (hX : OKX X cc own d loc nL) {k : Nat} (hd : decode cc pc = .ok (.astore k, 2)) (hn : Nat.blt k nL = true) (hc : c1 lv k = true) (kk : V X I J (pc + 2) (lv.set k (some .null)) st) : V X I J pc lv (.null :: st) := by
  obtain ⟨hx, hb, -, -, -, -, -, -, hN, -⟩ := hX
  intro H locs ls hW hS hl
  have hl0 : lv_has ls (xN X) (lvA 0 lv) := hl
  exact lv_astoreN hx hb hd hl0 (by rw [hN]; exact Nat.le_of_ble_eq_true hn) rfl (fun ls2 h2 => kk H locs ls2 hW hS (lvH.set1 hc h2))
theorem r_lstore_n (hX : OKX X cc own d loc nL) {k : Fin 4} {x : Int64} (hd : decode cc pc = .ok (.lstore_n k, 1)) (hn : Nat.blt (k + 1) nL = true) (hc : c1 lv k = true) (kk : V X I J (pc + 1) ((lv.set k (some (.long x))).set (k + 1) none) st) : V X I J pc lv (.long x :: st) := by
  obtain ⟨hx, hb, -, -, -, -, -, -, hN, -⟩ := hX
  intro H locs ls hW hS hl
  have hl0 : lv_has ls (xN X) (lvA 0 lv) := hl
  exact lv_lstore_n hx hb hd rfl hl0 (by rw [hN]; exact Nat.le_of_ble_eq_true hn) rfl (fun ls2 h2 => kk H locs ls2 hW hS (lvH.set2 hc h2))
theorem r_lstore (hX : OKX X cc own d loc nL) {k : Nat} {x : Int64} (hd : decode cc pc = .ok (.lstore k, 2)) (hn : Nat.blt (k + 1) nL = true) (hc : c1 lv k = true) (kk : V X I J (pc + 2) ((lv.set k (some (.long x))).set (k + 1) none) st) : V X I J pc lv (.long x :: st) := by
  obtain ⟨hx, hb, -, -, -, -, -, -, hN, -⟩ := hX
  intro H locs ls hW hS hl
  have hl0 : lv_has ls (xN X) (lvA 0 lv) := hl
  exact lv_lstore hx hb hd hl0 (by rw [hN]; exact Nat.le_of_ble_eq_true hn) rfl (fun ls2 h2 => kk H locs ls2 hW hS (lvH.set2 hc h2))
theorem r_iinc (hX : OKX X cc own d loc nL) {i : Nat} {n : Int} {n' x : Int32} (hd : decode cc pc = .ok (.iinc i n, 3)) (hv : Int32.ofInt n = n') (h : lv[i]? = some (some (.int x))) (hn : Nat.blt i nL = true) (hc : c1 lv i = true) (kk : V X I J (pc + 3) (lv.set i (some (.int (x + n')))) st) : V X I J pc lv st := by
  obtain ⟨hx, hb, -, -, -, -, -, -, hN, -⟩ := hX
  intro H locs ls hW hS hl
  have hl0 : lv_has ls (xN X) (lvA 0 lv) := hl
  obtain ⟨j, hj⟩ := List.getElem?_of_mem ((lvA_mem lv 0 i (.int x)).mpr ⟨Nat.zero_le _, h⟩)
  exact lv_iinc hx hb hd hl0 hj (by rw [hv]) (by rw [hN]; exact Nat.le_of_ble_eq_true hn) rfl (fun ls2 h2 => kk H locs ls2 hW hS (lvH.set1 hc h2))
theorem r_iadd (hX : OKX X cc own d loc nL) {x y : Int32} (hd : decode cc pc = .ok (.iadd, 1))  (k : V X I J (pc + 1) lv (.int (x + y) :: st)) : V X I J pc lv (.int y :: .int x :: st) := by
  obtain ⟨hx, hb, -⟩ := hX
  intro H locs ls hW hS hl
  exact lv_iadd hx hb hd  (k H locs ls hW hS hl)
theorem r_isub (hX : OKX X cc own d loc nL) {x y : Int32} (hd : decode cc pc = .ok (.isub, 1))  (k : V X I J (pc + 1) lv (.int (x - y) :: st)) : V X I J pc lv (.int y :: .int x :: st) := by
  obtain ⟨hx, hb, -⟩ := hX
  intro H locs ls hW hS hl
  exact lv_isub hx hb hd  (k H locs ls hW hS hl)
theorem r_imul (hX : OKX X cc own d loc nL) {x y : Int32} (hd : decode cc pc = .ok (.imul, 1))  (k : V X I J (pc + 1) lv (.int (x * y) :: st)) : V X I J pc lv (.int y :: .int x :: st) := by
  obtain ⟨hx, hb, -⟩ := hX
  intro H locs ls hW hS hl
  exact lv_imul hx hb hd  (k H locs ls hW hS hl)
theorem r_iand (hX : OKX X cc own d loc nL) {x y : Int32} (hd : decode cc pc = .ok (.iand, 1))  (k : V X I J (pc + 1) lv (.int (x &&& y) :: st)) : V X I J pc lv (.int y :: .int x :: st) := by
  obtain ⟨hx, hb, -⟩ := hX
  intro H locs ls hW hS hl
  exact lv_iand hx hb hd  (k H locs ls hW hS hl)
theorem r_ior (hX : OKX X cc own d loc nL) {x y : Int32} (hd : decode cc pc = .ok (.ior, 1))  (k : V X I J (pc + 1) lv (.int (x ||| y) :: st)) : V X I J pc lv (.int y :: .int x :: st) := by
  obtain ⟨hx, hb, -⟩ := hX
  intro H locs ls hW hS hl
  exact lv_ior hx hb hd  (k H locs ls hW hS hl)
theorem r_ixor (hX : OKX X cc own d loc nL) {x y : Int32} (hd : decode cc pc = .ok (.ixor, 1))  (k : V X I J (pc + 1) lv (.int (x ^^^ y) :: st)) : V X I J pc lv (.int y :: .int x :: st) := by
  obtain ⟨hx, hb, -⟩ := hX
  intro H locs ls hW hS hl
  exact lv_ixor hx hb hd  (k H locs ls hW hS hl)
theorem r_ishl (hX : OKX X cc own d loc nL) {x y : Int32} (hd : decode cc pc = .ok (.ishl, 1))  (k : V X I J (pc + 1) lv (.int (x <<< (y &&& 31)) :: st)) : V X I J pc lv (.int y :: .int x :: st) := by
  obtain ⟨hx, hb, -⟩ := hX
  intro H locs ls hW hS hl
  exact lv_ishl hx hb hd  (k H locs ls hW hS hl)
theorem r_ishr (hX : OKX X cc own d loc nL) {x y : Int32} (hd : decode cc pc = .ok (.ishr, 1))  (k : V X I J (pc + 1) lv (.int (x >>> (y &&& 31)) :: st)) : V X I J pc lv (.int y :: .int x :: st) := by
  obtain ⟨hx, hb, -⟩ := hX
  intro H locs ls hW hS hl
  exact lv_ishr hx hb hd  (k H locs ls hW hS hl)
theorem r_iushr (hX : OKX X cc own d loc nL) {x y : Int32} (hd : decode cc pc = .ok (.iushr, 1))  (k : V X I J (pc + 1) lv (.int ((x.toUInt32 >>> (y.toUInt32 &&& Int32.toUInt32 31)).toInt32) :: st)) : V X I J pc lv (.int y :: .int x :: st) := by
  obtain ⟨hx, hb, -⟩ := hX
  intro H locs ls hW hS hl
  exact lv_iushr hx hb hd rfl (k H locs ls hW hS hl)
theorem r_ineg (hX : OKX X cc own d loc nL) {x : Int32} (hd : decode cc pc = .ok (.ineg, 1))  (k : V X I J (pc + 1) lv (.int (-x) :: st)) : V X I J pc lv (.int x :: st) := by
  obtain ⟨hx, hb, -⟩ := hX
  intro H locs ls hW hS hl
  exact lv_ineg hx hb hd  (k H locs ls hW hS hl)
/-- the remainder -/
def jrem (x y : Int32) : Int32 := x - x / y * y
def jreml (x y : Int64) : Int64 := x - x / y * y
theorem r_idiv (hX : OKX X cc own d loc nL) {x y : Int32} (hd : decode cc pc = .ok (.idiv, 1)) (h0 : ¬ y = 0) (k : V X I J (pc + 1) lv (.int (x / y) :: st)) : V X I J pc lv (.int y :: .int x :: st) := by
  obtain ⟨hx, hb, -⟩ := hX
  intro H locs ls hW hS hl
  exact lv_idiv hx hb hd h0 (k H locs ls hW hS hl)
theorem r_irem (hX : OKX X cc own d loc nL) {x y : Int32} (hd : decode cc pc = .ok (.irem, 1)) (h0 : ¬ y = 0) (k : V X I J (pc + 1) lv (.int (jrem x y) :: st)) : V X I J pc lv (.int y :: .int x :: st) := by
  obtain ⟨hx, hb, -⟩ := hX
  intro H locs ls hW hS hl
  exact lv_irem hx hb hd h0 (k H locs ls hW hS hl)
theorem r_ladd (hX : OKX X cc own d loc nL) {x y : Int64} (hd : decode cc pc = .ok (.ladd, 1))  (k : V X I J (pc + 1) lv (.long (x + y) :: st)) : V X I J pc lv (.long y :: .long x :: st) := by
  obtain ⟨hx, hb, -⟩ := hX
  intro H locs ls hW hS hl
  exact lv_ladd hx hb hd  (k H locs ls hW hS hl)
theorem r_lsub (hX : OKX X cc own d loc nL) {x y : Int64} (hd : decode cc pc = .ok (.lsub, 1))  (k : V X I J (pc + 1) lv (.long (x - y) :: st)) : V X I J pc lv (.long y :: .long x :: st) := by
  obtain ⟨hx, hb, -⟩ := hX
  intro H locs ls hW hS hl
  exact lv_lsub hx hb hd  (k H locs ls hW hS hl)
theorem r_lmul (hX : OKX X cc own d loc nL) {x y : Int64} (hd : decode cc pc = .ok (.lmul, 1))  (k : V X I J (pc + 1) lv (.long (x * y) :: st)) : V X I J pc lv (.long y :: .long x :: st) := by
  obtain ⟨hx, hb, -⟩ := hX
  intro H locs ls hW hS hl
  exact lv_lmul hx hb hd  (k H locs ls hW hS hl)
theorem r_land (hX : OKX X cc own d loc nL) {x y : Int64} (hd : decode cc pc = .ok (.land, 1))  (k : V X I J (pc + 1) lv (.long (x &&& y) :: st)) : V X I J pc lv (.long y :: .long x :: st) := by
  obtain ⟨hx, hb, -⟩ := hX
  intro H locs ls hW hS hl
  exact lv_land hx hb hd  (k H locs ls hW hS hl)
theorem r_lor (hX : OKX X cc own d loc nL) {x y : Int64} (hd : decode cc pc = .ok (.lor, 1))  (k : V X I J (pc + 1) lv (.long (x ||| y) :: st)) : V X I J pc lv (.long y :: .long x :: st) := by
  obtain ⟨hx, hb, -⟩ := hX
  intro H locs ls hW hS hl
  exact lv_lor hx hb hd  (k H locs ls hW hS hl)
theorem r_ldiv (hX : OKX X cc own d loc nL) {x y : Int64} (hd : decode cc pc = .ok (.ldiv, 1)) (h0 : ¬ y = 0) (k : V X I J (pc + 1) lv (.long (x / y) :: st)) : V X I J pc lv (.long y :: .long x :: st) := by
  obtain ⟨hx, hb, -⟩ := hX
  intro H locs ls hW hS hl
  exact lv_ldiv hx hb hd h0 (k H locs ls hW hS hl)
theorem r_lrem (hX : OKX X cc own d loc nL) {x y : Int64} (hd : decode cc pc = .ok (.lrem, 1)) (h0 : ¬ y = 0) (k : V X I J (pc + 1) lv (.long (jreml x y) :: st)) : V X I J pc lv (.long y :: .long x :: st) := by
  obtain ⟨hx, hb, -⟩ := hX
  intro H locs ls hW hS hl
  exact lv_lrem hx hb hd h0 (k H locs ls hW hS hl)
theorem r_lshl (hX : OKX X cc own d loc nL) {x : Int64} {y : Int32} (hd : decode cc pc = .ok (.lshl, 1))  (k : V X I J (pc + 1) lv (.long (x <<< (y.toInt64 &&& 63)) :: st)) : V X I J pc lv (.int y :: .long x :: st) := by
  obtain ⟨hx, hb, -⟩ := hX
  intro H locs ls hW hS hl
  exact lv_lshl hx hb hd rfl (k H locs ls hW hS hl)
theorem r_lushr (hX : OKX X cc own d loc nL) {x : Int64} {y : Int32} (hd : decode cc pc = .ok (.lushr, 1))  (k : V X I J (pc + 1) lv (.long ((x.toUInt64 >>> (y.toInt64.toUInt64 &&& Int64.toUInt64 63)).toInt64) :: st)) : V X I J pc lv (.int y :: .long x :: st) := by
  obtain ⟨hx, hb, -⟩ := hX
  intro H locs ls hW hS hl
  exact lv_lushr hx hb hd rfl (k H locs ls hW hS hl)
theorem r_i2l (hX : OKX X cc own d loc nL) {x : Int32} (hd : decode cc pc = .ok (.i2l, 1))  (k : V X I J (pc + 1) lv (.long x.toInt64 :: st)) : V X I J pc lv (.int x :: st) := by
  obtain ⟨hx, hb, -⟩ := hX
  intro H locs ls hW hS hl
  exact lv_i2l hx hb hd rfl (k H locs ls hW hS hl)
theorem r_l2i (hX : OKX X cc own d loc nL) {x : Int64} (hd : decode cc pc = .ok (.l2i, 1))  (k : V X I J (pc + 1) lv (.int x.toInt32 :: st)) : V X I J pc lv (.long x :: st) := by
  obtain ⟨hx, hb, -⟩ := hX
  intro H locs ls hW hS hl
  exact lv_l2i hx hb hd rfl (k H locs ls hW hS hl)
theorem r_i2f (hX : OKX X cc own d loc nL) {x : Int32} (hd : decode cc pc = .ok (.i2f, 1))  (k : V X I J (pc + 1) lv (.float (FP.i2f x) :: st)) : V X I J pc lv (.int x :: st) := by
  obtain ⟨hx, hb, -⟩ := hX
  intro H locs ls hW hS hl
  exact lv_i2f hx hb hd  (k H locs ls hW hS hl)
theorem r_f2i (hX : OKX X cc own d loc nL) {x : UInt32} (hd : decode cc pc = .ok (.f2i, 1))  (k : V X I J (pc + 1) lv (.int (FP.f2i x) :: st)) : V X I J pc lv (.float x :: st) := by
  obtain ⟨hx, hb, -⟩ := hX
  intro H locs ls hW hS hl
  exact lv_f2i hx hb hd  (k H locs ls hW hS hl)
theorem r_fsub (hX : OKX X cc own d loc nL) {x y : UInt32} (hd : decode cc pc = .ok (.fsub, 1)) (h0 : vf_n32 (FP.fsub x y)) (k : V X I J (pc + 1) lv (.float (FP.fsub x y) :: st)) : V X I J pc lv (.float y :: .float x :: st) := by
  obtain ⟨hx, hb, -⟩ := hX
  intro H locs ls hW hS hl
  exact lv_fsub hx hb hd h0 (k H locs ls hW hS hl)
theorem r_fmul (hX : OKX X cc own d loc nL) {x y : UInt32} (hd : decode cc pc = .ok (.fmul, 1)) (h0 : vf_n32 (FP.fmul x y)) (k : V X I J (pc + 1) lv (.float (FP.fmul x y) :: st)) : V X I J pc lv (.float y :: .float x :: st) := by
  obtain ⟨hx, hb, -⟩ := hX
  intro H locs ls hW hS hl
  exact lv_fmul hx hb hd h0 (k H locs ls hW hS hl)
theorem r_fdiv (hX : OKX X cc own d loc nL) {x y : UInt32} (hd : decode cc pc = .ok (.fdiv, 1)) (h0 : vf_n32 (FP.fdiv x y)) (k : V X I J (pc + 1) lv (.float (FP.fdiv x y) :: st)) : V X I J pc lv (.float y :: .float x :: st) := by
  obtain ⟨hx, hb, -⟩ := hX
  intro H locs ls hW hS hl
  exact lv_fdiv hx hb hd h0 (k H locs ls hW hS hl)
theorem r_fcmp (hX : OKX X cc own d loc nL) {x y : UInt32} {op : CmpOp} (hd : decode cc pc = .ok (.fcmp op, 1))  (k : V X I J (pc + 1) lv (.int (Op.cmpValue (FP.fcmp x y) op) :: st)) : V X I J pc lv (.float y :: .float x :: st) := by
  obtain ⟨hx, hb, -⟩ := hX
  intro H locs ls hW hS hl
  exact lv_fcmp hx hb hd  (k H locs ls hW hS hl)
theorem r_lcmp (hX : OKX X cc own d loc nL) {x y : Int64} (hd : decode cc pc = .ok (.lcmp, 1)) (k : V X I J (pc + 1) lv (.int (lg_cmp x y) :: st)) : V X I J pc lv (.long y :: .long x :: st) := by
  obtain ⟨hx, hb, -⟩ := hX
  intro H locs ls hW hS hl
  exact W.lcmp hx hb hd (k H locs ls hW hS hl)
theorem r_dup (hX : OKX X cc own d loc nL) {va : Value} (hd : decode cc pc = .ok (.dup, 1)) (hva : va.category = 1) (k : V X I J (pc + 1) lv (va :: va :: st)) : V X I J pc lv (va :: st) := by
  obtain ⟨hx, hb, -⟩ := hX
  intro H locs ls hW hS hl
  exact lv_dup hx hb hd hva (k H locs ls hW hS hl)
theorem r_dup2 (hX : OKX X cc own d loc nL) {va vb : Value} (hd : decode cc pc = .ok (.dup2, 1)) (hva : va.category = 1) (hvb : vb.category = 1) (k : V X I J (pc + 1) lv (va :: vb :: va :: vb :: st)) : V X I J pc lv (va :: vb :: st) := by
  obtain ⟨hx, hb, -⟩ := hX
  intro H locs ls hW hS hl
  exact lv_dup2_11 hx hb hd hva hvb (k H locs ls hW hS hl)
theorem r_pop (hX : OKX X cc own d loc nL) {va : Value} (hd : decode cc pc = .ok (.pop, 1)) (hva : va.category = 1) (k : V X I J (pc + 1) lv (st)) : V X I J pc lv (va :: st) := by
  obtain ⟨hx, hb, -⟩ := hX
  intro H locs ls hW hS hl
  exact lv_pop hx hb hd hva (k H locs ls hW hS hl)
theorem r_goto (hX : OKX X cc own d loc nL) {off : Int} {tgt : Nat} (hd : decode cc pc = .ok (.goto off, 3)) (ht : (pc : Int) + off = (tgt : Int)) (k : V X I J tgt lv st) : V X I J pc lv st := by
  obtain ⟨hx, hb, -⟩ := hX
  intro H locs ls hW hS hl
  exact lv_goto hx hb hd ht (k H locs ls hW hS hl)
theorem i_nle {x y : Int32} (h : ¬ y ≤ x) : x < y := by rw [Int32.lt_iff_toInt_lt]; rw [Int32.le_iff_toInt_le] at h; omega
theorem i_nlt {x y : Int32} (h : y ≤ x) : ¬ x < y := by rw [Int32.lt_iff_toInt_lt]; rw [Int32.le_iff_toInt_le] at h; omega
theorem r_icmp_eq (hX : OKX X cc own d loc nL) {x y : Int32} {off : Int} {tgt : Nat} (hd : decode cc pc = .ok (.if_icmp .eq off, 3)) (ht : (pc : Int) + off = (tgt : Int)) (k1 : x = y → V X I J (tgt) lv st) (k2 : ¬ (x = y) → V X I J (pc + 3) lv st) : V X I J pc lv (.int y :: .int x :: st) := by
  obtain ⟨hx, hb, -⟩ := hX
  intro H locs ls hW hS hl
  exact lv_icmp_eq hx hb hd ht (fun c => k1 c H locs ls hW hS hl) (fun c => k2 c H locs ls hW hS hl)
theorem r_icmp_ne (hX : OKX X cc own d loc nL) {x y : Int32} {off : Int} {tgt : Nat} (hd : decode cc pc = .ok (.if_icmp .ne off, 3)) (ht : (pc : Int) + off = (tgt : Int)) (k1 : x = y → V X I J (pc + 3) lv st) (k2 : ¬ (x = y) → V X I J (tgt) lv st) : V X I J pc lv (.int y :: .int x :: st) := by
  obtain ⟨hx, hb, -⟩ := hX
  intro H locs ls hW hS hl
  exact lv_icmp_ne hx hb hd ht (fun c => k2 c H locs ls hW hS hl) (fun c => k1 c H locs ls hW hS hl)
theorem r_icmp_lt (hX : OKX X cc own d loc nL) {x y : Int32} {off : Int} {tgt : Nat} (hd : decode cc pc = .ok (.if_icmp .lt off, 3)) (ht : (pc : Int) + off = (tgt : Int)) (k1 : x < y → V X I J (tgt) lv st) (k2 : ¬ (x < y) → V X I J (pc + 3) lv st) : V X I J pc lv (.int y :: .int x :: st) := by
  obtain ⟨hx, hb, -⟩ := hX
  intro H locs ls hW hS hl
  exact lv_icmp_lt hx hb hd ht (fun c => k1 c H locs ls hW hS hl) (fun c => k2 c H locs ls hW hS hl)
theorem r_icmp_ge (hX : OKX X cc own d loc nL) {x y : Int32} {off : Int} {tgt : Nat} (hd : decode cc pc = .ok (.if_icmp .ge off, 3)) (ht : (pc : Int) + off = (tgt : Int)) (k1 : x < y → V X I J (pc + 3) lv st) (k2 : ¬ (x < y) → V X I J (tgt) lv st) : V X I J pc lv (.int y :: .int x :: st) := by
  obtain ⟨hx, hb, -⟩ := hX
  intro H locs ls hW hS hl
  exact lv_icmp_ge hx hb hd ht (fun c => k2 (i_nlt c) H locs ls hW hS hl) (fun c => k1 (i_nle c) H locs ls hW hS hl)
theorem r_icmp_gt (hX : OKX X cc own d loc nL) {x y : Int32} {off : Int} {tgt : Nat} (hd : decode cc pc = .ok (.if_icmp .gt off, 3)) (ht : (pc : Int) + off = (tgt : Int)) (k1 : y < x → V X I J (tgt) lv st) (k2 : ¬ (y < x) → V X I J (pc + 3) lv st) : V X I J pc lv (.int y :: .int x :: st) := by
  obtain ⟨hx, hb, -⟩ := hX
  intro H locs ls hW hS hl
  exact lv_icmp_gt hx hb hd ht (fun c => k1 c H locs ls hW hS hl) (fun c => k2 c H locs ls hW hS hl)
theorem r_icmp_le (hX : OKX X cc own d loc nL) {x y : Int32} {off : Int} {tgt : Nat} (hd : decode cc pc = .ok (.if_icmp .le off, 3)) (ht : (pc : Int) + off = (tgt : Int)) (k1 : y < x → V X I J (pc + 3) lv st) (k2 : ¬ (y < x) → V X I J (tgt) lv st) : V X I J pc lv (.int y :: .int x :: st) := by
  obtain ⟨hx, hb, -⟩ := hX
  intro H locs ls hW hS hl
  exact lv_icmp_le hx hb hd ht (fun c => k2 (i_nlt c) H locs ls hW hS hl) (fun c => k1 (i_nle c) H locs ls hW hS hl)
theorem r_if_eq (hX : OKX X cc own d loc nL) {x : Int32} {off : Int} {tgt : Nat} (hd : decode cc pc = .ok (.ifCond .eq off, 3)) (ht : (pc : Int) + off = (tgt : Int)) (k1 : x = 0 → V X I J (tgt) lv st) (k2 : ¬ (x = 0) → V X I J (pc + 3) lv st) : V X I J pc lv (.int x :: st) := by
  obtain ⟨hx, hb, -⟩ := hX
  intro H locs ls hW hS hl
  exact lv_if_eq hx hb hd ht (fun c => k1 c H locs ls hW hS hl) (fun c => k2 c H locs ls hW hS hl)
theorem r_if_ne (hX : OKX X cc own d loc nL) {x : Int32} {off : Int} {tgt : Nat} (hd : decode cc pc = .ok (.ifCond .ne off, 3)) (ht : (pc : Int) + off = (tgt : Int)) (k1 : x = 0 → V X I J (pc + 3) lv st) (k2 : ¬ (x = 0) → V X I J (tgt) lv st) : V X I J pc lv (.int x :: st) := by
  obtain ⟨hx, hb, -⟩ := hX
  intro H locs ls hW hS hl
  exact lv_if_ne hx hb hd ht (fun c => k2 c H locs ls hW hS hl) (fun c => k1 c H locs ls hW hS hl)
theorem r_if_lt (hX : OKX X cc own d loc nL) {x : Int32} {off : Int} {tgt : Nat} (hd : decode cc pc = .ok (.ifCond .lt off, 3)) (ht : (pc : Int) + off = (tgt : Int)) (k1 : x < 0 → V X I J (tgt) lv st) (k2 : ¬ (x < 0) → V X I J (pc + 3) lv st) : V X I J pc lv (.int x :: st) := by
  obtain ⟨hx, hb, -⟩ := hX
  intro H locs ls hW hS hl
  exact lv_if_lt hx hb hd ht (fun c => k1 c H locs ls hW hS hl) (fun c => k2 c H locs ls hW hS hl)
theorem r_if_ge (hX : OKX X cc own d loc nL) {x : Int32} {off : Int} {tgt : Nat} (hd : decode cc pc = .ok (.ifCond .ge off, 3)) (ht : (pc : Int) + off = (tgt : Int)) (k1 : x < 0 → V X I J (pc + 3) lv st) (k2 : ¬ (x < 0) → V X I J (tgt) lv st) : V X I J pc lv (.int x :: st) := by
  obtain ⟨hx, hb, -⟩ := hX
  intro H locs ls hW hS hl
  exact lv_if_ge hx hb hd ht (fun c => k2 (i_nlt c) H locs ls hW hS hl) (fun c => k1 (i_nle c) H locs ls hW hS hl)
theorem r_if_gt (hX : OKX X cc own d loc nL) {x : Int32} {off : Int} {tgt : Nat} (hd : decode cc pc = .ok (.ifCond .gt off, 3)) (ht : (pc : Int) + off = (tgt : Int)) (k1 : 0 < x → V X I J (tgt) lv st) (k2 : ¬ (0 < x) → V X I J (pc + 3) lv st) : V X I J pc lv (.int x :: st) := by
  obtain ⟨hx, hb, -⟩ := hX
  intro H locs ls hW hS hl
  exact lv_if_gt hx hb hd ht (fun c => k1 c H locs ls hW hS hl) (fun c => k2 c H locs ls hW hS hl)
theorem r_if_le (hX : OKX X cc own d loc nL) {x : Int32} {off : Int} {tgt : Nat} (hd : decode cc pc = .ok (.ifCond .le off, 3)) (ht : (pc : Int) + off = (tgt : Int)) (k1 : 0 < x → V X I J (pc + 3) lv st) (k2 : ¬ (0 < x) → V X I J (tgt) lv st) : V X I J pc lv (.int x :: st) := by
  obtain ⟨hx, hb, -⟩ := hX
  intro H locs ls hW hS hl
  exact lv_if_le hx hb hd ht (fun c => k2 (i_nlt c) H locs ls hW hS hl) (fun c => k1 (i_nle c) H locs ls hW hS hl)
theorem r_ifnull_r (hX : OKX X cc own d loc nL) {x : Nat} {off : Int} (hd : decode cc pc = .ok (.ifnull off, 3)) (k : V X I J (pc + 3) lv st) : V X I J pc lv (.ref x :: st) := by
  obtain ⟨hx, hb, -⟩ := hX
  intro H locs ls hW hS hl
  exact lv_ifnull hx hb hd (k H locs ls hW hS hl)
theorem r_ifnull_n (hX : OKX X cc own d loc nL) {off : Int} {tgt : Nat} (hd : decode cc pc = .ok (.ifnull off, 3)) (ht : (pc : Int) + off = (tgt : Int)) (k : V X I J tgt lv st) : V X I J pc lv (.null :: st) := by
  obtain ⟨hx, hb, -⟩ := hX
  intro H locs ls hW hS hl
  exact lv_ifnullN hx hb hd ht (k H locs ls hW hS hl)
theorem r_ifnonnull_r (hX : OKX X cc own d loc nL) {x : Nat} {off : Int} {tgt : Nat} (hd : decode cc pc = .ok (.ifnonnull off, 3)) (ht : (pc : Int) + off = (tgt : Int)) (k : V X I J tgt lv st) : V X I J pc lv (.ref x :: st) := by
  obtain ⟨hx, hb, -⟩ := hX
  intro H locs ls hW hS hl
  exact lv_ifnonnull hx hb hd ht (k H locs ls hW hS hl)
theorem r_ifnonnull_n (hX : OKX X cc own d loc nL) {off : Int} (hd : decode cc pc = .ok (.ifnonnull off, 3)) (k : V X I J (pc + 3) lv st) : V X I J pc lv (.null :: st) := by
  obtain ⟨hx, hb, -⟩ := hX
  intro H locs ls hW hS hl
  exact lv_ifnonnullN hx hb hd (k H locs ls hW hS hl)
theorem r_tsw (hX : OKX X cc own d loc nL) {dflt lo hi : Int} {offs : Array Int} {len : Nat} {x : Int32} {off : Int} {tgt : Nat} (v : Int32) (hd : decode cc pc = .ok (.tableswitch dflt lo hi offs, len)) (hc : x = v) (h1 : ¬ v.toInt < lo) (h2 : ¬ hi < v.toInt) (ho : offs[(v.toInt - lo).toNat]? = some off) (ht : (pc : Int) + off = (tgt : Int)) (k : V X I J tgt lv st) : V X I J pc lv (.int x :: st) := by
  subst hc
  obtain ⟨hx, hb, -⟩ := hX
  intro H locs ls hW hS hl
  exact lv_tableIn hx hb hd h1 h2 ho ht (k H locs ls hW hS hl)
theorem r_tswD (hX : OKX X cc own d loc nL) {dflt lo hi : Int} {offs : Array Int} {len : Nat} {x : Int32} {tgt : Nat} (hd : decode cc pc = .ok (.tableswitch dflt lo hi offs, len)) (vs : List Int32) (hvs : vs.map Int32.toInt = (List.range (hi - lo + 1).toNat).map (fun k : Nat => lo + (k : Int))) (hc : ∀ v ∈ vs, ¬ x = v) (ht : (pc : Int) + dflt = (tgt : Int)) (k : V X I J tgt lv st) : V X I J pc lv (.int x :: st) := by
  obtain ⟨hx, hb, -⟩ := hX
  intro H locs ls hW hS hl
  refine lv_tableOut hx hb hd ?_ ht (k H locs ls hW hS hl)
  refine Classical.byContradiction fun hno => ?_
  have hm : x.toInt ∈ vs.map Int32.toInt := by
    rw [hvs]
    refine List.mem_map.mpr ⟨(x.toInt - lo).toNat, List.mem_range.mpr (by omega), by omega⟩
  obtain ⟨v, hv, e⟩ := List.mem_map.mp hm
  exact hc v hv (Int32.toInt_inj.mp e).symm
theorem r_lsw (hX : OKX X cc own d loc nL) {dflt : Int} {ps : Array (Int × Int)} {len : Nat} {x : Int32} {off : Int} {tgt : Nat} (hd : decode cc pc = .ok (.lookupswitch dflt ps, len)) (hp : (ps.toList.zip (ps.toList.drop 1)).all (fun (a, next) => a.1 < next.1) = true) (ho : Op.lookupswitch.offset ps.toList dflt x.toInt = off) (ht : (pc : Int) + off = (tgt : Int)) (k : V X I J tgt lv st) : V X I J pc lv (.int x :: st) := by
  obtain ⟨hx, hb, -⟩ := hX
  intro H locs ls hW hS hl
  exact lv_lookup hx hb hd hp ho ht (k H locs ls hW hS hl)
end Rows
end
section
/-! heap rows over the shadow state -/
def CPk (ci : Nat) (C : String) (T : u_T) (N : Nat) (ty : Nat → FieldType) : Prop := vwCl[ci]? = some (C, T, N) ∧ (∀ w ∈ u_ws C T N, w ∈ gTbl) ∧ (∀ k, k < N → parseFieldDescriptor (T k).2.2.1 = some (ty k)) ∧ (∀ a, a < N → ∀ b, b < N → a ≠ b → (T a).2.1 ≠ (T b).2.1)
theorem eK_cls {G : GX} {I : HI} {J : HJ} {a kd ci : Nat} (hk : gK G a = kd) (h1 : kd = ci + 1) (h2 : Nat.blt kd 10 = true) : eK G I J a = .inr (ci, fsR (I a) (J a) a kd) := by
  subst h1
  have h3 : gK G a < 10 := by rw [hk]; exact Nat.le_of_ble_eq_true h2
  unfold eK eR
  rw [if_pos h3, hk]
  rfl
theorem eK_int {G : GX} {I : HI} {J : HJ} {a kd n : Nat} (hk : gK G a = kd) (h1 : kd = 100 + n) : eK G I J a = .inl (gcI G, n, .inl (I a)) := by
  subst h1
  unfold eK eR
  rw [if_neg (by rw [hk]; omega), if_neg (by rw [hk]; omega), if_neg (by rw [hk]; omega), if_neg (by rw [hk]; omega), if_neg (by rw [hk]; omega), hk, Nat.add_sub_cancel_left]
theorem eK_bool {G : GX} {I : HI} {J : HJ} {a kd n : Nat} (hk : gK G a = kd) (h1 : kd = 50 + n) (h2 : Nat.blt n 50 = true) : eK G I J a = .inl (gcZ G, n, .inl (I a)) := by
  subst h1
  have h3 : n < 50 := Nat.le_of_ble_eq_true h2
  unfold eK eR
  rw [if_neg (by rw [hk]; omega), if_neg (by rw [hk]; omega), if_neg (by rw [hk]; omega), if_neg (by rw [hk]; omega), if_pos (by rw [hk]; omega), hk, Nat.add_sub_cancel_left]
theorem eK_10 {G : GX} {I : HI} {J : HJ} {a : Nat} (hk : gK G a = 10) : eK G I J a = .inl (gcP G, 4, .inr (.inr (.inr (.inr (fun i => some (a + 1 + 3 * i)))))) := by
  unfold eK eR
  rw [if_neg (by rw [hk]; omega), if_pos hk]
theorem eK_11 {G : GX} {I : HI} {J : HJ} {a : Nat} (hk : gK G a = 11) : eK G I J a = .inl (gcN G, 14, .inr (.inr (.inr (.inr (fun i => some (a + 1 + 17 * i)))))) := by
  unfold eK eR
  rw [if_neg (by rw [hk]; omega), if_neg (by rw [hk]; omega), if_pos hk]
theorem eK_12 {G : GX} {I : HI} {J : HJ} {a : Nat} (hk : gK G a = 12) : eK G I J a = .inl (gcN G, 2, .inr (.inr (.inr (.inr (fun i => some (a + 10 + 17 * i)))))) := by
  unfold eK eR
  rw [if_neg (by rw [hk]; omega), if_neg (by rw [hk]; omega), if_neg (by rw [hk]; omega), if_pos hk]
theorem up_eK {G : GX} {I : HI} {J : HJ} {a k : Nat} {v : Int32} {e : va_E} (h : e = eR G (uR (I a) k v) (J a) a) (b : Nat) : va_up (eK G I J) a e b = eK G (sI I a k v) J b := by
  unfold va_up eK sI
  by_cases hb : b = a
  · subst hb; simp [h]
  · simp [hb]
theorem up_eJ {G : GX} {I : HI} {J : HJ} {a : Nat} {v : Int64} {e : va_E} (h : e = eR G (I a) v a) (b : Nat) : va_up (eK G I J) a e b = eK G I (sJ J a v) b := by
  unfold va_up eK sJ
  by_cases hb : b = a
  · subst hb; simp [h]
  · simp [hb]
theorem eR_cls {G : GX} {f : Nat → Int32} {j : Int64} {a kd ci : Nat} (hk : gK G a = kd) (h1 : kd = ci + 1) (h2 : Nat.blt kd 10 = true) : eR G f j a = .inr (ci, fsR f j a kd) := eK_cls (G := G) (I := fun _ => f) (J := fun _ => j) hk h1 h2
theorem pl_D {G : GX} (hG : OKG G) {A : Nat → Prop} (hA : ∀ q ∈ gL G, A q) (f : Nat → va_E) : va_D A (va_pl (gL G) f) := by
  refine ⟨fun i j p q hi hj e => ?_, fun k q hk => ?_⟩
  · unfold va_pl at hi hj
    rw [List.getElem?_map] at hi hj
    cases h1 : (gL G)[i]? with
    | none => rw [h1] at hi; cases hi
    | some x =>
      cases h2 : (gL G)[j]? with
      | none => rw [h2] at hj; cases hj
      | some y =>
        rw [h1] at hi; rw [h2] at hj
        cases hi; cases hj
        obtain ⟨l1, e1⟩ := List.getElem?_eq_some_iff.mp h1
        obtain ⟨l2, e2⟩ := List.getElem?_eq_some_iff.mp h2
        have e3 : (gL G)[i] = (gL G)[j] := by rw [e1, e2]; exact e
        have hn := List.pairwise_iff_getElem.mp hG.1
        rcases Nat.lt_trichotomy i j with h | h | h
        · exact absurd e3 (hn i j l1 l2 h)
        · exact h
        · exact absurd e3.symm (hn j i l2 l1 h)
  · unfold va_pl at hk
    rw [List.getElem?_map] at hk
    cases h1 : (gL G)[k]? with
    | none => rw [h1] at hk; cases hk
    | some x => rw [h1] at hk; cases hk; exact hA x (List.mem_of_getElem? h1)
theorem Wd.set {G : GX} {I I' : HI} {J J' : HJ} (hG : OKG G) {a q0 : Nat} {e : va_E} {H1 : Heap} (hm : a ∈ gL G) (hq : (va_pl (gL G) (eK G I J))[q0]? = some (a, eK G I J a)) (hP : va_P (gD G) vwCl ((va_pl (gL G) (eK G I J)).set q0 (a, e)) H1) (he : ∀ b, va_up (eK G I J) a e b = eK G I' J' b) : Wd G I' J' H1 := by
  have h1 := va_pl_set (A := fun _ => True) (X := []) (L := gL G) (f := eK G I J) (a := a) (k := q0) (e := e) (pl_D hG (fun _ _ => trivial) _) hm hq
  have h2 : (va_pl (gL G) (eK G I J)).set q0 (a, e) = va_pl (gL G) (eK G I' J') := h1.trans (va_pl_congr he)
  unfold Wd
  rw [← h2]
  exact hP
theorem Wd.at {G : GX} {I : HI} {J : HJ} {a : Nat} (hm : a ∈ gL G) : ∃ q0 : Nat, (va_pl (gL G) (eK G I J))[q0]? = some (a, eK G I J a) := va_pl_get (X := []) hm
/-- a boolean -/
def zb (x : Int32) : Prop := x = 0 ∨ x = 1
theorem zb_nar {x : Int32} (h : zb x) : vp_nar .boolean x = x := by rcases h with rfl | rfl <;> rfl
theorem zb_0 : zb 0 := Or.inl rfl
theorem zb_1 : zb 1 := Or.inr rfl
section RowsH
variable {X : CX} {I : HI} {J : HJ} {pc : Nat} {lv : List (Option Value)} {st : List Value} {cc : ByteArray} {own : String} {d loc nL : Nat}
theorem r_get (hX : OKX X cc own d loc nL) {ci kd a k idx : Nat} {C : String} {T : u_T} {N : Nat} {ty : Nat → FieldType} {v : Value} (hC : CPk ci C T N ty) (hlink : Cond.fieldLink own idx (T k).1 (T k).2.1 (T k).2.2.1 ∈ gTbl) (hkN : Nat.blt k N = true) (hkd : kd = ci + 1) (h10 : Nat.blt kd 10 = true) (hk : gK (xG X) a = kd) (hv : (fsR (I a) (J a) a kd)[k]? = some v) (hd : decode cc pc = .ok (.getfield idx, 3)) (kk : V X I J (pc + 3) lv (v :: st)) : V X I J pc lv (.ref a :: st) := by
  obtain ⟨hx, hb, -, ho, hts, hK, hG, -⟩ := hX
  intro H locs ls hW hS hl
  have hm : a ∈ gL (xG X) := hG.2.1 a (by rw [hk, hkd]; exact Nat.succ_ne_zero _)
  obtain ⟨q0, hq⟩ := Wd.at (I := I) (J := J) hm
  rw [eK_cls hk hkd h10] at hq
  exact va_get hx hb hts hC.2.1 ho hK hW q0 hq hC.1 k (Nat.le_of_ble_eq_true hkN) (hts _ hlink) (fun _ h => h) hv hd (kk H locs ls hW hS hl)
theorem r_put (hX : OKX X cc own d loc nL) {ci kd a k idx : Nat} {C : String} {T : u_T} {N : Nat} {ty : Nat → FieldType} {x : Int32} (hC : CPk ci C T N ty) (hlink : Cond.fieldLink own idx (T k).1 (T k).2.1 (T k).2.2.1 ∈ gTbl) (hkN : Nat.blt k N = true) (hkd : kd = ci + 1) (h10 : Nat.blt kd 10 = true) (hfin : (T k).2.2.2 = false) (hty : parseFieldDescriptor (T k).2.2.1 = some .int) (hl0 : ∀ f j, k < (fsR f j a kd).length) (hf : ∀ f j, (fsR f j a kd).set k (.int x) = fsR (uR f k x) j a kd) (hk : gK (xG X) a = kd) (hd : decode cc pc = .ok (.putfield idx, 3)) (kk : V X (sI I a k x) J (pc + 3) lv st) : V X I J pc lv (.int x :: .ref a :: st) := by
  obtain ⟨hx, hb, -, ho, hts, hK, hG, hA, -⟩ := hX
  intro H locs ls hW hS hl
  have hm : a ∈ gL (xG X) := hG.2.1 a (by rw [hk, hkd]; exact Nat.succ_ne_zero _)
  obtain ⟨q0, hq⟩ := Wd.at (I := I) (J := J) hm
  have hq2 := hq
  rw [eK_cls hk hkd h10] at hq2
  refine va_put hx hb hts hC.2.1 ty hC.2.2.1 hC.2.2.2 ho hK hW (pl_D hG hA _) hS q0 hq2 hC.1 k (Nat.le_of_ble_eq_true hkN) (hts _ hlink) (fun _ h => h) hfin hty rfl rfl (hl0 _ _) hd (fun H1 locs1 hP1 hD1 hS1 => kk H1 locs1 ls (Wd.set hG hm hq hP1 (up_eK ?_)) hS1 hl)
  rw [eR_cls hk hkd h10, hf]
theorem r_putJ (hX : OKX X cc own d loc nL) {ci kd a k idx : Nat} {C : String} {T : u_T} {N : Nat} {ty : Nat → FieldType} {x : Int64} (hC : CPk ci C T N ty) (hlink : Cond.fieldLink own idx (T k).1 (T k).2.1 (T k).2.2.1 ∈ gTbl) (hkN : Nat.blt k N = true) (hkd : kd = ci + 1) (h10 : Nat.blt kd 10 = true) (hfin : (T k).2.2.2 = false) (hty : parseFieldDescriptor (T k).2.2.1 = some .long) (hl0 : ∀ f j, k < (fsR f j a kd).length) (hf : ∀ f j, (fsR f j a kd).set k (.long x) = fsR f x a kd) (hk : gK (xG X) a = kd) (hd : decode cc pc = .ok (.putfield idx, 3)) (kk : V X I (sJ J a x) (pc + 3) lv st) : V X I J pc lv (.long x :: .ref a :: st) := by
  obtain ⟨hx, hb, -, ho, hts, hK, hG, hA, -⟩ := hX
  intro H locs ls hW hS hl
  have hm : a ∈ gL (xG X) := hG.2.1 a (by rw [hk, hkd]; exact Nat.succ_ne_zero _)
  obtain ⟨q0, hq⟩ := Wd.at (I := I) (J := J) hm
  have hq2 := hq
  rw [eK_cls hk hkd h10] at hq2
  refine va_put hx hb hts hC.2.1 ty hC.2.2.1 hC.2.2.2 ho hK hW (pl_D hG hA _) hS q0 hq2 hC.1 k (Nat.le_of_ble_eq_true hkN) (hts _ hlink) (fun _ h => h) hfin hty rfl rfl (hl0 _ _) hd (fun H1 locs1 hP1 hD1 hS1 => kk H1 locs1 ls (Wd.set hG hm hq hP1 (up_eJ ?_)) hS1 hl)
  rw [eR_cls hk hkd h10, hf]
theorem r_iald (hX : OKX X cc own d loc nL) {a kn n : Nat} {i : Int32} (hn : kn = 100 + n) (hk : gK (xG X) a = kn) (hin : vp_in i n) (hd : decode cc pc = .ok (.iaload, 1)) (kk : V X I J (pc + 1) lv (.int (I a i.toNatClampNeg) :: st)) : V X I J pc lv (.int i :: .ref a :: st) := by
  obtain ⟨hx, hb, -, ho, hts, hK, hG, -⟩ := hX
  intro H locs ls hW hS hl
  have hm : a ∈ gL (xG X) := hG.2.1 a (by rw [hk]; omega)
  obtain ⟨q0, hq⟩ := Wd.at (I := I) (J := J) hm
  rw [eK_int hk hn] at hq
  exact va_iald hx hb hK hW q0 0 hq rfl hin hd (kk H locs ls hW hS hl)
theorem r_zald (hX : OKX X cc own d loc nL) {a kn n : Nat} {i : Int32} (hn : kn = 50 + n) (hn2 : Nat.blt n 50 = true) (hk : gK (xG X) a = kn) (hin : vp_in i n) (hd : decode cc pc = .ok (.baload, 1)) (kk : V X I J (pc + 1) lv (.int (I a i.toNatClampNeg) :: st)) : V X I J pc lv (.int i :: .ref a :: st) := by
  obtain ⟨hx, hb, -, ho, hts, hK, hG, -⟩ := hX
  intro H locs ls hW hS hl
  have hm : a ∈ gL (xG X) := hG.2.1 a (by rw [hk]; omega)
  obtain ⟨q0, hq⟩ := Wd.at (I := I) (J := J) hm
  rw [eK_bool hk hn hn2] at hq
  exact va_zald hx hb hK hW q0 1 hq rfl hin hd (kk H locs ls hW hS hl)
theorem r_iast (hX : OKX X cc own d loc nL) {a kn n : Nat} {i x : Int32} (hn : kn = 100 + n) (hk : gK (xG X) a = kn) (hin : vp_in i n) (hd : decode cc pc = .ok (.iastore, 1)) (kk : V X (sI I a i.toNatClampNeg x) J (pc + 1) lv st) : V X I J pc lv (.int x :: .int i :: .ref a :: st) := by
  obtain ⟨hx, hb, -, ho, hts, hK, hG, hA, -⟩ := hX
  intro H locs ls hW hS hl
  have hm : a ∈ gL (xG X) := hG.2.1 a (by rw [hk]; omega)
  obtain ⟨q0, hq⟩ := Wd.at (I := I) (J := J) hm
  have hq2 := hq
  rw [eK_int hk hn] at hq2
  refine va_iast hx hb hK hW (pl_D hG hA _) hS q0 0 hq2 rfl hin hd (fun H1 locs1 hP1 hD1 hS1 => kk H1 locs1 ls (Wd.set hG hm hq hP1 (up_eK ?_)) hS1 hl)
  exact (eK_int (G := xG X) (I := fun _ => uR (I a) i.toNatClampNeg x) (J := J) hk hn).symm
theorem r_zast (hX : OKX X cc own d loc nL) {a kn n : Nat} {i x : Int32} (hn : kn = 50 + n) (hn2 : Nat.blt n 50 = true) (hk : gK (xG X) a = kn) (hin : vp_in i n) (hz : zb x) (hd : decode cc pc = .ok (.bastore, 1)) (kk : V X (sI I a i.toNatClampNeg x) J (pc + 1) lv st) : V X I J pc lv (.int x :: .int i :: .ref a :: st) := by
  obtain ⟨hx, hb, -, ho, hts, hK, hG, hA, -⟩ := hX
  intro H locs ls hW hS hl
  have hm : a ∈ gL (xG X) := hG.2.1 a (by rw [hk]; omega)
  obtain ⟨q0, hq⟩ := Wd.at (I := I) (J := J) hm
  have hq2 := hq
  rw [eK_bool hk hn hn2] at hq2
  refine va_zast hx hb hK hW (pl_D hG hA _) hS q0 1 hq2 rfl hin hd (fun H1 locs1 hP1 hD1 hS1 => kk H1 locs1 ls (Wd.set hG hm hq hP1 (up_eK ?_)) hS1 hl)
  rw [zb_nar hz]
  exact (eK_bool (G := xG X) (I := fun _ => uR (I a) i.toNatClampNeg x) (J := J) hk hn hn2).symm
theorem r_alen (hX : OKX X cc own d loc nL) {a kn n : Nat} {v : Int32} (hn : kn = 100 + n) (hk : gK (xG X) a = kn) (hv : Int32.ofNat n = v) (hd : decode cc pc = .ok (.arraylength, 1)) (kk : V X I J (pc + 1) lv (.int v :: st)) : V X I J pc lv (.ref a :: st) := by
  obtain ⟨hx, hb, -, ho, hts, hK, hG, -⟩ := hX
  intro H locs ls hW hS hl
  have hm : a ∈ gL (xG X) := hG.2.1 a (by rw [hk]; omega)
  obtain ⟨q0, hq⟩ := Wd.at (I := I) (J := J) hm
  rw [eK_int hk hn] at hq
  exact va_alen hx hb hK hW q0 0 hq rfl hv hd (kk H locs ls hW hS hl)
theorem r_zlen (hX : OKX X cc own d loc nL) {a kn n : Nat} {v : Int32} (hn : kn = 50 + n) (hn2 : Nat.blt n 50 = true) (hk : gK (xG X) a = kn) (hv : Int32.ofNat n = v) (hd : decode cc pc = .ok (.arraylength, 1)) (kk : V X I J (pc + 1) lv (.int v :: st)) : V X I J pc lv (.ref a :: st) := by
  obtain ⟨hx, hb, -, ho, hts, hK, hG, -⟩ := hX
  intro H locs ls hW hS hl
  have hm : a ∈ gL (xG X) := hG.2.1 a (by rw [hk]; omega)
  obtain ⟨q0, hq⟩ := Wd.at (I := I) (J := J) hm
  rw [eK_bool hk hn hn2] at hq
  exact va_alen hx hb hK hW q0 1 hq rfl hv hd (kk H locs ls hW hS hl)
/-- an array of references: its length, the address of its first cell's object, the distance to the next -/
def RA (G : GX) (a n e0 ds : Nat) : Prop := (gK G a = 10 ∧ n = 4 ∧ e0 = a + 1 ∧ ds = 3) ∨ (gK G a = 11 ∧ n = 14 ∧ e0 = a + 1 ∧ ds = 17) ∨ (gK G a = 12 ∧ n = 2 ∧ e0 = a + 10 ∧ ds = 17)
theorem r_qlen (hX : OKX X cc own d loc nL) {a n e0 ds : Nat} {v : Int32} (hk : RA (xG X) a n e0 ds) (hv : Int32.ofNat n = v) (hd : decode cc pc = .ok (.arraylength, 1)) (kk : V X I J (pc + 1) lv (.int v :: st)) : V X I J pc lv (.ref a :: st) := by
  obtain ⟨hx, hb, -, ho, hts, hK, hG, -⟩ := hX
  intro H locs ls hW hS hl
  rcases hk with ⟨hk, rfl, rfl, rfl⟩ | ⟨hk, rfl, rfl, rfl⟩ | ⟨hk, rfl, rfl, rfl⟩
  · have hm : a ∈ gL (xG X) := hG.2.1 a (by rw [hk]; omega)
    obtain ⟨q0, hq⟩ := Wd.at (I := I) (J := J) hm
    rw [eK_10 hk] at hq
    exact va_alen hx hb hK hW q0 2 hq rfl hv hd (kk H locs ls hW hS hl)
  · have hm : a ∈ gL (xG X) := hG.2.1 a (by rw [hk]; omega)
    obtain ⟨q0, hq⟩ := Wd.at (I := I) (J := J) hm
    rw [eK_11 hk] at hq
    exact va_alen hx hb hK hW q0 3 hq rfl hv hd (kk H locs ls hW hS hl)
  · have hm : a ∈ gL (xG X) := hG.2.1 a (by rw [hk]; omega)
    obtain ⟨q0, hq⟩ := Wd.at (I := I) (J := J) hm
    rw [eK_12 hk] at hq
    exact va_alen hx hb hK hW q0 3 hq rfl hv hd (kk H locs ls hW hS hl)
theorem r_aald (hX : OKX X cc own d loc nL) {a n e0 ds : Nat} {i : Int32} (hk : RA (xG X) a n e0 ds) (hin : vp_in i n) (hd : decode cc pc = .ok (.aaload, 1)) (kk : V X I J (pc + 1) lv (.ref (e0 + ds * i.toNatClampNeg) :: st)) : V X I J pc lv (.int i :: .ref a :: st) := by
  obtain ⟨hx, hb, -, ho, hts, hK, hG, -⟩ := hX
  intro H locs ls hW hS hl
  rcases hk with ⟨hk, rfl, rfl, rfl⟩ | ⟨hk, rfl, rfl, rfl⟩ | ⟨hk, rfl, rfl, rfl⟩
  · have hm : a ∈ gL (xG X) := hG.2.1 a (by rw [hk]; omega)
    obtain ⟨q0, hq⟩ := Wd.at (I := I) (J := J) hm
    rw [eK_10 hk] at hq
    exact va_aldq hx hb hK hW q0 2 hq rfl hin hd (kk H locs ls hW hS hl)
  · have hm : a ∈ gL (xG X) := hG.2.1 a (by rw [hk]; omega)
    obtain ⟨q0, hq⟩ := Wd.at (I := I) (J := J) hm
    rw [eK_11 hk] at hq
    exact va_aldq hx hb hK hW q0 3 hq rfl hin hd (kk H locs ls hW hS hl)
  · have hm : a ∈ gL (xG X) := hG.2.1 a (by rw [hk]; omega)
    obtain ⟨q0, hq⟩ := Wd.at (I := I) (J := J) hm
    rw [eK_12 hk] at hq
    exact va_aldq hx hb hK hW q0 3 hq rfl hin hd (kk H locs ls hW hS hl)
end RowsH
theorem vp_in_lt {i : Int32} {n : Nat} (h : vp_in i n) : i.toNatClampNeg < n := Nat.not_le.mp fun q => h (Or.inr q)
/-- what a method says: from the shadow state I, J it answers vo and leaves I', J' -/
def Ctr (G : GX) (l : Launch) (z : MethodName) (bytes : ByteArray) (maxL : Nat) (ret : Option FieldType) (d loc : Nat) (as : List Value) (I : HI) (J : HJ) (vo : Option Value) (I' : HI) (J' : HJ) : Prop :=
  Met l z (.code z bytes maxL ret :: gTbl) { frames := d, cells := 0, slots := 0, locals := loc } (va_Pc as (fun U => (va_K (gD G) vwCl (gT G) U ∧ NW U) ∧ Wd G I J U.heap)) (fun _ s0 oc t => oc = .returned vo ∧ Wd G I' J' t.heap ∧ va_F (fun q => q ∈ gL G) s0 t) 0 0 (fun q => q ∈ gL G)
theorem gAW : ∀ w ∈ gTbl, goodWord w = true := fun w h => (List.mem_filter.mp h).2
theorem gAll : GoodIn gTbl gTbl := fun w h => ⟨h, good_of_word (gAW w h)⟩
theorem gIn_app {big a b : List Cond} (ha : GoodIn big a) (hb : GoodIn big b) : GoodIn big (a ++ b) := fun w h => (List.mem_append.mp h).elim (ha w) (hb w)
/-- the words of a method that is called: instance, static -/
def MPI (z : MethodName) (bytes : ByteArray) (maxL : Nat) (ret : Option FieldType) (n : Nat) : Prop := Cond.instanceMethod z ∈ gTbl ∧ Cond.selects z.cls z z ∈ gTbl ∧ Cond.initialized z.cls ∈ gTbl ∧ Cond.code z bytes maxL ret ∈ gTbl ∧ z.cls ≠ "java/lang/invoke/MethodHandle" ∧ z.cls ≠ "java/lang/invoke/VarHandle" ∧ (parseMethodDescriptor z.desc).map (fun d => d.parameters.length) = some n
def MPS (z : MethodName) (bytes : ByteArray) (maxL : Nat) (ret : Option FieldType) (n : Nat) : Prop := Cond.static z ∈ gTbl ∧ Cond.initialized z.cls ∈ gTbl ∧ Cond.code z bytes maxL ret ∈ gTbl ∧ z.cls ≠ "java/lang/invoke/MethodHandle" ∧ z.cls ≠ "java/lang/invoke/VarHandle" ∧ (parseMethodDescriptor z.desc).map (fun d => d.parameters.length) = some n
theorem gCode {z : MethodName} {bytes : ByteArray} {maxL : Nat} {ret : Option FieldType} (h : Cond.code z bytes maxL ret ∈ gTbl) : GoodIn gTbl (.code z bytes maxL ret :: gTbl) := fun w hw => (List.mem_cons.mp hw).elim (fun e => e ▸ gAll _ h) (gAll w)
theorem NW.warm {s U : State} (hW : s.WarmedH U.vm) (h : NW s) : NW U := fun q hq => va_Nw.warmM hW (h q hq)
theorem fb_Pc {G : GX} {as : List Value} {I : HI} {J : HJ} : FrameBlind (va_Pc as (fun U => (va_K (gD G) vwCl (gT G) U ∧ NW U) ∧ Wd G I J U.heap)) := fun a U g mk q => ⟨q.1, ⟨va_K.moved (u := U) (U := U.calling g mk a) (Vm.Alike.refl U.vm) q.2.1.1, fun w hw => va_Nw.same rfl (u := U) (U := U.calling g mk a) rfl (q.2.1.2 w hw)⟩, q.2.2⟩
section Calls2
variable {X : CX} {I I' : HI} {J J' : HJ} {pc : Nat} {lv : List (Option Value)} {st st0 : List Value} {cc : ByteArray} {own : String} {d loc nL : Nat} {vo : Option Value}
theorem V.run (hX : OKX X cc own d loc nL) {a : Array Value} {Qx : Array Value → State → Outcome → State → Prop} (hQ : Qx = fun _ s0 oc t => oc = .returned vo ∧ Wd (xG X) I' J' t.heap ∧ va_F (fun q => q ∈ gL (xG X)) s0 t)
    (hr : ∀ (H : Heap) (locs : List Loc) (ls : Array Slot), Wd (xG X) I J H → ls.size = nL → va_Run (xp X) (xl X) (xe X) (xR X) (xs X) (xm X) (xa X) (xb X) (xM X) (xc X) H locs (xk X) (xn X) 0 0 (F0 (xm X) pc ls st0) st (Qx a) (fun q => q ∈ gL (xG X)))
    (kk : V X I' J' (pc + 3) lv (vo.toList ++ st)) : V X I J pc lv st0 := by
  obtain ⟨-, -, -, -, -, -, -, hA, hN, -⟩ := hX
  subst hQ
  intro H locs ls hW hS hl T hT Xs
  obtain ⟨v, s0, t, T', L, h0, X', hL, e1, e2, ⟨hv, hw, hz, hq⟩, stp⟩ := hr H locs ls hW (by rw [← hN]; exact hl.1) T hT Xs
  cases hv
  rw [h0] at hz hq
  obtain ⟨t2, a1, b1⟩ := kk T'.heap (locs ++ L) ls (by rw [e1]; exact hw)
    ⟨Nat.le_trans hS.1 (by rw [e1]; exact hz), fun q h1 h2 => by rw [e1, hq q (Nat.lt_of_lt_of_le h1 hS.1) (fun z => h2 (hA q z))]; exact hS.2.1 q h1 h2, fun q hq => by
      rcases List.mem_append.mp hq with h | h
      · exact hS.2.2 q h
      · exact hA _ (hL q h)⟩ hl T' rfl X'
  exact ⟨t2, stp t2 a1, b1⟩
theorem r_callV (hX : OKX X cc own d loc nL) {z : MethodName} {bytes : ByteArray} {maxL : Nat} {ret : Option FieldType} {dz locz n idx b ci kd : Nat} {As : List Value} {q : vw_C} (hc : Ctr (xG X) (xl X) z bytes maxL ret dz locz (.ref b :: As) I J vo I' J') (hp : MPI z bytes maxL ret n) (hl : Cond.methodLink own idx z ∈ gTbl) (hcl : vwCl[ci]? = some q) (hq : q.1 = z.cls) (hkd : kd = ci + 1) (h10 : Nat.blt kd 10 = true) (hk : gK (xG X) b = kd) (hn : As.length = n) (hr : (Nat.ble (dz + 1) d && Nat.ble (8 + (maxL + 11) + locz) loc) = true) (hst : st0 = As.reverse ++ .ref b :: st) (hw : (st.map fun v => v.category).sum ≤ 8) (hd : decode cc pc = .ok (.invokevirtual idx, 3)) (kk : V X I' J' (pc + 3) lv (vo.toList ++ st)) : V X I J pc lv st0 := by
  refine V.run hX rfl (a := (Value.ref b :: As).toArray) (fun H locs ls hW hls => ?_) kk
  obtain ⟨hx, hb, hml, ho, hts, hK, hG, hA, hN, hfr, hlo, hce, hsl, hNW⟩ := hX
  rw [Bool.and_eq_true] at hr
  have hr1 := Nat.le_of_ble_eq_true hr.1
  have hr2 := Nat.le_of_ble_eq_true hr.2
  have hm : b ∈ gL (xG X) := hG.2.1 b (by rw [hk, hkd]; exact Nat.succ_ne_zero _)
  obtain ⟨q0, hq0⟩ := Wd.at (I := I) (J := J) hm
  rw [eK_cls hk hkd h10] at hq0
  have hrc := va_recv hK hW hcl hq0
  rw [hq] at hrc
  exact va_runV ⟨hx, hb, hml, ho, hts⟩ hc (cwV n hts (gIn_app (fun w h => by
      simp only [List.mem_cons, List.not_mem_nil, or_false] at h
      rcases h with rfl | rfl | rfl | rfl
      · exact gAll _ hl
      · exact gAll _ hp.1
      · exact gAll _ hp.2.1
      · exact gAll _ hp.2.2.1) (gCode hp.2.2.2.1)) rfl rfl rfl ⟨rfl, hp.2.2.2.2⟩ ⟨Nat.le_trans hr1 hfr, Nat.le_trans hr2 hlo⟩)
    ⟨fb_Pc, hrc, fun U hU hWU => ⟨rfl, ⟨va_K.moved hWU.alike hK, NW.warm hWU hNW⟩, by rw [hU]; exact hW⟩⟩ rfl hn hls hst (lv_room hw) hd ⟨hce, hsl⟩
theorem r_callS (hX : OKX X cc own d loc nL) {z : MethodName} {bytes : ByteArray} {maxL : Nat} {ret : Option FieldType} {dz locz n idx : Nat} {As : List Value} (hc : Ctr (xG X) (xl X) z bytes maxL ret dz locz As I J vo I' J') (hp : MPS z bytes maxL ret n) (hl : Cond.methodLink own idx z ∈ gTbl) (hn : As.length = n) (hr : (Nat.ble (dz + 1) d && Nat.ble (8 + (maxL + 11) + locz) loc) = true) (hst : st0 = As.reverse ++ st) (hw : (st.map fun v => v.category).sum ≤ 8) (hd : decode cc pc = .ok (.invokestatic idx, 3)) (kk : V X I' J' (pc + 3) lv (vo.toList ++ st)) : V X I J pc lv st0 := by
  refine V.run hX rfl (a := As.toArray) (fun H locs ls hW hls => ?_) kk
  obtain ⟨hx, hb, hml, ho, hts, hK, hG, hA, hN, hfr, hlo, hce, hsl, hNW⟩ := hX
  rw [Bool.and_eq_true] at hr
  have hr1 := Nat.le_of_ble_eq_true hr.1
  have hr2 := Nat.le_of_ble_eq_true hr.2
  have hcb := callB_of (own := own) (index := idx) (rm := { frames := dz, cells := 0, slots := 0, locals := locz }) (R := xR X) (mc := 0) (ms := 0) n hts (gCode hp.2.2.1) rfl rfl rfl (hts _ hp.2.1) (hts _ hl) hp.2.2.2 ⟨Nat.le_trans hr1 hfr, Nat.le_trans hr2 hlo⟩
  exact va_runS ⟨hx, hb, hml, ho, hts⟩ hc ⟨hcb, hts _ hp.1⟩ ⟨fb_Pc, fun U hU hWU => ⟨rfl, ⟨va_K.moved hWU.alike hK, NW.warm hWU hNW⟩, by rw [hU]; exact hW⟩⟩ rfl hn hls hst (lv_room hw) hd ⟨hce, hsl⟩
theorem r_callSN (hX : OKX X cc own d loc nL) {z : MethodName} {bytes : ByteArray} {maxL : Nat} {ret : Option FieldType} {dz locz n idx : Nat} {As : List Value} (hc : Ctr (xG X) (xl X) z bytes maxL ret dz locz As I J vo I' J') (hp : MPS z bytes maxL ret n) (j : Nat) (hl : nwL[j]? = some (own, idx, z, "ShelfFilters")) (hn : As.length = n) (hr : (Nat.ble (dz + 1) d && Nat.ble (8 + (maxL + 11) + locz) loc) = true) (hst : st0 = As.reverse ++ st) (hw : (st.map fun v => v.category).sum ≤ 8) (hd : decode cc pc = .ok (.invokestatic idx, 3)) (kk : V X I' J' (pc + 3) lv (vo.toList ++ st)) : V X I J pc lv st0 := by
  refine V.run hX rfl (a := As.toArray) (fun H locs ls hW hls => ?_) kk
  obtain ⟨hx, hb, hml, ho, hts, hK, hG, hA, hN, hfr, hlo, hce, hsl, hNW⟩ := hX
  rw [Bool.and_eq_true] at hr
  have hr1 := Nat.le_of_ble_eq_true hr.1
  have hr2 := Nat.le_of_ble_eq_true hr.2
  have hcb := va_cnB (own := own) (index := idx) (host := "ShelfFilters") (rm := { frames := dz, cells := 0, slots := 0, locals := locz }) (R := xR X) (mc := 0) (ms := 0) n hts (gCode hp.2.2.1) rfl rfl rfl (hNW _ (List.mem_of_getElem? hl)) (hts _ hp.2.1) hp.2.2.2 ⟨Nat.le_trans hr1 hfr, Nat.le_trans hr2 hlo⟩
  exact va_runSN ⟨hx, hb, hml, ho, hts⟩ hc ⟨hcb, hts _ hp.1, trivial⟩ ⟨fb_Pc, fun U hU hWU => ⟨rfl, ⟨va_K.moved hWU.alike hK, NW.warm hWU hNW⟩, by rw [hU]; exact hW⟩⟩ rfl hn hls hst (lv_room hw) hd ⟨hce, hsl⟩
end Calls2
section Ends
variable {G : GX} {l : Launch} {z : MethodName} {cc : ByteArray} {maxL : Nat} {ret : Option FieldType} {d loc : Nat} {as : List Value} {I I' : HI} {J J' : HJ} {vo : Option Value}
theorem ctr_of (hG : OKG G) (hy : plainName z.cls = true) (lv0 : List (Option Value)) (hlv : lvA 0 lv0 = lv_args 0 as) (hlen : Nat.ble (lg_sl as).length maxL = true)
    (body : ∀ X : CX, xG X = G → xl X = l → OKX X cc z.cls d loc maxL → (xM X).locks = false → (xM X).sig.returnType = ret → (xk X = 0 ∧ xn X = 0 ∧ xQ X = MQ (xb X) (fun _ s0 oc t => oc = .returned vo ∧ Wd G I' J' t.heap ∧ va_F (fun q => q ∈ gL G) s0 t) (xa X) (xs X) 0 0 (fun q => q ∈ gL G)) → (xA X = fun q => q ∈ gL G) → V X I J 0 lv0 []) : Ctr G l z cc maxL ret d loc as I J vo I' J' := by
  refine Met.ofW (cc := cc) (maxL := maxL) (ret := ret) hy rfl ?_
  intro p e s m args below meth c s₁ B hml hv
  obtain ⟨rfl, ⟨hK, hNW⟩, hW⟩ := hv
  have hts := atoms_spec (ws := .code z cc maxL ret :: gTbl) B.pre
  have hb := body (G, l, p, e, { frames := d, cells := 0, slots := 0, locals := loc }, s, m, as.toArray, below, meth, c, MQ below (fun _ s0 oc t => oc = .returned vo ∧ Wd G I' J' t.heap ∧ va_F (fun q => q ∈ gL G) s0 t) as.toArray s 0 0 (fun q => q ∈ gL G), (fun q => q ∈ gL G), 0, 0, maxL) rfl rfl
    ⟨B.exec, B.bytes, hml, findClass_of_methodNamed B.named, fun w h => hts w (List.mem_cons_of_mem _ h), hK, hG, fun _ h => h, rfl, Nat.le_refl _, Nat.le_refl _, Nat.le_refl _, Nat.le_refl _, hNW⟩ B.notSynchronized B.returns ⟨rfl, rfl, rfl⟩ rfl
  have hl := lv_entry as (n := maxL) (Nat.le_of_ble_eq_true hlen)
  rw [lg_entry_eq]
  rw [← hlv] at hl
  exact hb s.heap [] _ hW va_S.rf hl
def RetI (X : CX) (cc : ByteArray) (r : Int32) (I' : HI) (J' : HJ) : Prop := ∀ pc lv, decode cc pc = .ok (.ireturn, 1) → V X I' J' pc lv [.int r]
def RetV (X : CX) (cc : ByteArray) (I' : HI) (J' : HJ) : Prop := ∀ pc lv, decode cc pc = .ok (.return_, 1) → V X I' J' pc lv []
def RetL (X : CX) (cc : ByteArray) (r : Int64) (I' : HI) (J' : HJ) : Prop := ∀ pc lv, decode cc pc = .ok (.lreturn, 1) → V X I' J' pc lv [.long r]
def RetA (X : CX) (cc : ByteArray) (r : Option Nat) (I' : HI) (J' : HJ) : Prop := ∀ pc lv, decode cc pc = .ok (.areturn, 1) → V X I' J' pc lv [va_rf r]
theorem ctr_I {r : Int32} (hG : OKG G) (hy : plainName z.cls = true) (lv0 : List (Option Value)) (hlv : lvA 0 lv0 = lv_args 0 as) (hlen : Nat.ble (lg_sl as).length maxL = true)
    (body : ∀ X : CX, xG X = G → xl X = l → OKX X cc z.cls d loc maxL → RetI X cc r I' J' → V X I J 0 lv0 []) : Ctr G l z cc maxL (some .int) d loc as I J (some (.int r)) I' J' := by
  refine ctr_of hG hy lv0 hlv hlen fun X e1 e2 hX hlk hr h3 hA => body X e1 e2 hX fun pc lv hd => ?_
  obtain ⟨hx, hb, -⟩ := hX
  obtain ⟨g1, g2, g3⟩ := h3
  intro H locs ls hW hS hl
  unfold WX
  rw [g1, g2, g3]
  rw [hA] at hS
  rw [e1] at hW
  exact W.iret hx hb hr (fun t ht hWt => ⟨rfl, by rw [ht]; exact hW, hS.F ht⟩) hS.2.2 hd hlk
theorem ctr_Z {r : Int32} (hz : zb r) (hG : OKG G) (hy : plainName z.cls = true) (lv0 : List (Option Value)) (hlv : lvA 0 lv0 = lv_args 0 as) (hlen : Nat.ble (lg_sl as).length maxL = true)
    (body : ∀ X : CX, xG X = G → xl X = l → OKX X cc z.cls d loc maxL → RetI X cc r I' J' → V X I J 0 lv0 []) : Ctr G l z cc maxL (some .boolean) d loc as I J (some (.int r)) I' J' := by
  refine ctr_of hG hy lv0 hlv hlen fun X e1 e2 hX hlk hr h3 hA => body X e1 e2 hX fun pc lv hd => ?_
  obtain ⟨hx, hb, -⟩ := hX
  obtain ⟨g1, g2, g3⟩ := h3
  intro H locs ls hW hS hl
  unfold WX
  rw [g1, g2, g3]
  rw [hA] at hS
  rw [e1] at hW
  exact W.zret hx hb hr (by rcases hz with rfl | rfl <;> rfl) (fun t ht hWt => ⟨rfl, by rw [ht]; exact hW, hS.F ht⟩) hS.2.2 hd hlk
theorem ctr_V (hG : OKG G) (hy : plainName z.cls = true) (lv0 : List (Option Value)) (hlv : lvA 0 lv0 = lv_args 0 as) (hlen : Nat.ble (lg_sl as).length maxL = true)
    (body : ∀ X : CX, xG X = G → xl X = l → OKX X cc z.cls d loc maxL → RetV X cc I' J' → V X I J 0 lv0 []) : Ctr G l z cc maxL none d loc as I J none I' J' := by
  refine ctr_of hG hy lv0 hlv hlen fun X e1 e2 hX hlk hr h3 hA => body X e1 e2 hX fun pc lv hd => ?_
  obtain ⟨hx, hb, -⟩ := hX
  obtain ⟨g1, g2, g3⟩ := h3
  intro H locs ls hW hS hl
  unfold WX
  rw [g1, g2, g3]
  rw [hA] at hS
  rw [e1] at hW
  exact W.vret hx hb hr (fun t ht hWt => ⟨rfl, by rw [ht]; exact hW, hS.F ht⟩) hS.2.2 hd hlk
theorem ctr_L {r : Int64} (hG : OKG G) (hy : plainName z.cls = true) (lv0 : List (Option Value)) (hlv : lvA 0 lv0 = lv_args 0 as) (hlen : Nat.ble (lg_sl as).length maxL = true)
    (body : ∀ X : CX, xG X = G → xl X = l → OKX X cc z.cls d loc maxL → RetL X cc r I' J' → V X I J 0 lv0 []) : Ctr G l z cc maxL (some .long) d loc as I J (some (.long r)) I' J' := by
  refine ctr_of hG hy lv0 hlv hlen fun X e1 e2 hX hlk hr h3 hA => body X e1 e2 hX fun pc lv hd => ?_
  obtain ⟨hx, hb, -⟩ := hX
  obtain ⟨g1, g2, g3⟩ := h3
  intro H locs ls hW hS hl
  unfold WX
  rw [g1, g2, g3]
  rw [hA] at hS
  rw [e1] at hW
  exact W.lret hx hb hr (fun t ht hWt => ⟨rfl, by rw [ht]; exact hW, hS.F ht⟩) hS.2.2 hd hlk
theorem ctr_A {r : Option Nat} {n : String} (hG : OKG G) (hy : plainName z.cls = true) (lv0 : List (Option Value)) (hlv : lvA 0 lv0 = lv_args 0 as) (hlen : Nat.ble (lg_sl as).length maxL = true)
    (body : ∀ X : CX, xG X = G → xl X = l → OKX X cc z.cls d loc maxL → RetA X cc r I' J' → V X I J 0 lv0 []) : Ctr G l z cc maxL (some (.object n)) d loc as I J (some (va_rf r)) I' J' := by
  refine ctr_of hG hy lv0 hlv hlen fun X e1 e2 hX hlk hr h3 hA => body X e1 e2 hX fun pc lv hd => ?_
  obtain ⟨hx, hb, -⟩ := hX
  obtain ⟨g1, g2, g3⟩ := h3
  intro H locs ls hW hS hl
  unfold WX
  rw [g1, g2, g3]
  rw [hA] at hS
  rw [e1] at hW
  exact W.aret hx hb hr (Or.inl ⟨n, rfl⟩) (by cases r with | none => exact Or.inl rfl | some a => exact Or.inr ⟨a, rfl⟩) (fun t ht hWt => ⟨rfl, by rw [ht]; exact hW, hS.F ht⟩) hS.2.2 hd hlk
end Ends
/-! what a text of the program is: guards, calls, loops -/
noncomputable def gd {α : Type} (c : Prop) (x : Option α) : Option α := @ite _ c (Classical.propDecidable c) x none
theorem gd_some {α : Type} {c : Prop} {x : Option α} {r : α} (h : gd c x = some r) : c ∧ x = some r := by
  unfold gd at h
  by_cases hc : c
  · rw [if_pos hc] at h; exact ⟨hc, h⟩
  · rw [if_neg hc] at h; cases h
theorem gd_pos {α : Type} {c : Prop} {x : Option α} (h : c) : gd c x = x := by unfold gd; rw [if_pos h]
def bd1 {α γ : Type} (x : Option α) (f : α → Option γ) : Option γ := match x with | some a => f a | none => none
def bd2 {α β γ : Type} (x : Option (α × β)) (f : α → β → Option γ) : Option γ := match x with | some q => f q.1 q.2 | none => none
def bd3 {α β γ δ : Type} (x : Option (α × β × γ)) (f : α → β → γ → Option δ) : Option δ := match x with | some q => f q.1 q.2.1 q.2.2 | none => none
theorem bd1_some {α γ : Type} {x : Option α} {f : α → Option γ} {r : γ} (h : bd1 x f = some r) : ∃ a, x = some a ∧ f a = some r := by
  cases x with
  | none => cases h
  | some a => exact ⟨a, rfl, h⟩
theorem bd2_some {α β γ : Type} {x : Option (α × β)} {f : α → β → Option γ} {r : γ} (h : bd2 x f = some r) : ∃ a b, x = some (a, b) ∧ f a b = some r := by
  cases x with
  | none => cases h
  | some q => exact ⟨q.1, q.2, rfl, h⟩
theorem bd3_some {α β γ δ : Type} {x : Option (α × β × γ)} {f : α → β → γ → Option δ} {r : δ} (h : bd3 x f = some r) : ∃ a b c, x = some (a, b, c) ∧ f a b c = some r := by
  cases x with
  | none => cases h
  | some q => exact ⟨q.1, q.2.1, q.2.2, rfl, h⟩
theorem hf_t {α : Type} {c : Prop} {i : Decidable c} {x y : Option α} {r : α} (h : c) (hf : @ite _ c i x y = some r) : x = some r := (if_pos h).symm.trans hf
theorem hf_f {α : Type} {c : Prop} {i : Decidable c} {x y : Option α} {r : α} (h : ¬ c) (hf : @ite _ c i x y = some r) : y = some r := (if_neg h).symm.trans hf
def mN {γ : Type} (r : Option Nat) (n : γ) (f : Nat → γ) : γ := match r with | none => n | some a => f a
end
section
theorem gTbl_lw {w : Cond} (h : w ∈ gTbl) : w ∈ lw_tbl := (List.mem_filter.mp h).1
theorem cl_L_7 : Cond.classLink RL 7 RX7 ∈ gTbl := gTbl_of (List.mem_of_getElem? (i := 68) (by decide +kernel)) (by decide +kernel)
theorem it_X7 : Cond.instantiable RX7 10 ∈ gTbl := gTbl_of (List.mem_of_getElem? (i := 69) (by decide +kernel)) (by decide +kernel)
theorem ml_L_9 : Cond.methodLink RL 9 yX7_init ∈ gTbl := gTbl_of (List.mem_of_getElem? (i := 70) (by decide +kernel)) (by decide +kernel)
theorem ml_X7_1 : Cond.methodLink RX7 1 ⟨"java/lang/Object", "<init>", "()V"⟩ ∈ gTbl := gTbl_of (List.mem_of_getElem? (i := 73) (by decide +kernel)) (by decide +kernel)
theorem cl_X7_7 : Cond.classLink RX7 7 RX6 ∈ gTbl := gTbl_of (List.mem_of_getElem? (i := 76) (by decide +kernel)) (by decide +kernel)
theorem it_X6 : Cond.instantiable RX6 5 ∈ gTbl := gTbl_of (List.mem_of_getElem? (i := 77) (by decide +kernel)) (by decide +kernel)
theorem ml_X6_3 : Cond.methodLink RX6 3 ⟨"java/lang/Object", "<init>", "()V"⟩ ∈ gTbl := gTbl_of (List.mem_of_getElem? (i := 81) (by decide +kernel)) (by decide +kernel)
theorem cl_X6_15 : Cond.classLink RX6 15 RX1 ∈ gTbl := gTbl_of (List.mem_of_getElem? (i := 82) (by decide +kernel)) (by decide +kernel)
theorem it_X1 : Cond.instantiable RX1 7 ∈ gTbl := gTbl_of (List.mem_of_getElem? (i := 83) (by decide +kernel)) (by decide +kernel)
theorem ml_X6_17 : Cond.methodLink RX6 17 yX1_init ∈ gTbl := gTbl_of (List.mem_of_getElem? (i := 84) (by decide +kernel)) (by decide +kernel)
theorem ml_X1_3 : Cond.methodLink RX1 3 ⟨"java/lang/Object", "<init>", "()V"⟩ ∈ gTbl := gTbl_of (List.mem_of_getElem? (i := 87) (by decide +kernel)) (by decide +kernel)
theorem cl_X1_9 : Cond.classLink RX1 9 RX0 ∈ gTbl := gTbl_of (List.mem_of_getElem? (i := 88) (by decide +kernel)) (by decide +kernel)
theorem it_X0 : Cond.instantiable RX0 6 ∈ gTbl := gTbl_of (List.mem_of_getElem? (i := 89) (by decide +kernel)) (by decide +kernel)
theorem ml_X0_3 : Cond.methodLink RX0 3 ⟨"java/lang/Object", "<init>", "()V"⟩ ∈ gTbl := gTbl_of (List.mem_of_getElem? (i := 93) (by decide +kernel)) (by decide +kernel)
theorem fl_X0_9 : Cond.fieldLink RX0 9 "ShelfFilters$Hashing" "cells" "I" ∈ gTbl := gTbl_of (List.mem_of_getElem? (i := 94) (by decide +kernel)) (by decide +kernel)
theorem fl_X7_135 : Cond.fieldLink RX7 135 "ShelfFilters$Hashing" "cells" "I" ∈ gTbl := gTbl_of (List.mem_of_getElem? (i := 95) (by decide +kernel)) (by decide +kernel)
theorem fl_X0_15 : Cond.fieldLink RX0 15 "ShelfFilters$Hashing" "functions" "I" ∈ gTbl := gTbl_of (List.mem_of_getElem? (i := 96) (by decide +kernel)) (by decide +kernel)
theorem fl_X7_150 : Cond.fieldLink RX7 150 "ShelfFilters$Hashing" "functions" "I" ∈ gTbl := gTbl_of (List.mem_of_getElem? (i := 97) (by decide +kernel)) (by decide +kernel)
theorem fl_X1_146 : Cond.fieldLink RX1 146 "ShelfFilters$Hashing" "functions" "I" ∈ gTbl := gTbl_of (List.mem_of_getElem? (i := 98) (by decide +kernel)) (by decide +kernel)
theorem fl_X0_18 : Cond.fieldLink RX0 18 "ShelfFilters$Hashing" "families" "I" ∈ gTbl := gTbl_of (List.mem_of_getElem? (i := 99) (by decide +kernel)) (by decide +kernel)
theorem fl_X1_56 : Cond.fieldLink RX1 56 "ShelfFilters$Hashing" "families" "I" ∈ gTbl := gTbl_of (List.mem_of_getElem? (i := 100) (by decide +kernel)) (by decide +kernel)
theorem fl_X6_62 : Cond.fieldLink RX6 62 "ShelfFilters$Hashing" "families" "I" ∈ gTbl := gTbl_of (List.mem_of_getElem? (i := 101) (by decide +kernel)) (by decide +kernel)
theorem fl_X7_200 : Cond.fieldLink RX7 200 "ShelfFilters$Hashing" "families" "I" ∈ gTbl := gTbl_of (List.mem_of_getElem? (i := 102) (by decide +kernel)) (by decide +kernel)
theorem fl_X0_21 : Cond.fieldLink RX0 21 "ShelfFilters$Hashing" "present" "I" ∈ gTbl := gTbl_of (List.mem_of_getElem? (i := 103) (by decide +kernel)) (by decide +kernel)
theorem fl_X1_87 : Cond.fieldLink RX1 87 "ShelfFilters$Hashing" "present" "I" ∈ gTbl := gTbl_of (List.mem_of_getElem? (i := 104) (by decide +kernel)) (by decide +kernel)
theorem fl_X7_182 : Cond.fieldLink RX7 182 "ShelfFilters$Hashing" "present" "I" ∈ gTbl := gTbl_of (List.mem_of_getElem? (i := 105) (by decide +kernel)) (by decide +kernel)
theorem fl_X0_24 : Cond.fieldLink RX0 24 "ShelfFilters$Hashing" "factors" "[I" ∈ gTbl := gTbl_of (List.mem_of_getElem? (i := 106) (by decide +kernel)) (by decide +kernel)
theorem fl_X0_28 : Cond.fieldLink RX0 28 "ShelfFilters$Hashing" "shifts" "[I" ∈ gTbl := gTbl_of (List.mem_of_getElem? (i := 107) (by decide +kernel)) (by decide +kernel)
theorem ac_int : Cond.arrayClass Jvm.ClassFile.FieldType.int ∈ gTbl := gTbl_of (List.mem_of_getElem? (i := 121) (by decide +kernel)) (by decide +kernel)
theorem cl_X1_18 : Cond.classLink RX1 18 RX4 ∈ gTbl := gTbl_of (List.mem_of_getElem? (i := 122) (by decide +kernel)) (by decide +kernel)
theorem ao_X4 : Cond.arrayOver (Jvm.ClassFile.FieldType.object "ShelfFilters$Proxy") ∈ lw_tbl := List.mem_of_getElem? (i := 123) (by decide +kernel)
theorem it_X4 : Cond.instantiable RX4 7 ∈ gTbl := gTbl_of (List.mem_of_getElem? (i := 124) (by decide +kernel)) (by decide +kernel)
theorem ml_X4_3 : Cond.methodLink RX4 3 ⟨"java/lang/Object", "<init>", "()V"⟩ ∈ gTbl := gTbl_of (List.mem_of_getElem? (i := 128) (by decide +kernel)) (by decide +kernel)
theorem fl_X4_9 : Cond.fieldLink RX4 9 "ShelfFilters$Proxy" "room" "I" ∈ gTbl := gTbl_of (List.mem_of_getElem? (i := 129) (by decide +kernel)) (by decide +kernel)
theorem fl_X7_98 : Cond.fieldLink RX7 98 "ShelfFilters$Proxy" "room" "I" ∈ gTbl := gTbl_of (List.mem_of_getElem? (i := 130) (by decide +kernel)) (by decide +kernel)
theorem fl_X4_15 : Cond.fieldLink RX4 15 "ShelfFilters$Proxy" "limit" "I" ∈ gTbl := gTbl_of (List.mem_of_getElem? (i := 131) (by decide +kernel)) (by decide +kernel)
theorem fl_X7_103 : Cond.fieldLink RX7 103 "ShelfFilters$Proxy" "limit" "I" ∈ gTbl := gTbl_of (List.mem_of_getElem? (i := 132) (by decide +kernel)) (by decide +kernel)
theorem fl_X1_156 : Cond.fieldLink RX1 156 "ShelfFilters$Proxy" "limit" "I" ∈ gTbl := gTbl_of (List.mem_of_getElem? (i := 133) (by decide +kernel)) (by decide +kernel)
theorem fl_X4_18 : Cond.fieldLink RX4 18 "ShelfFilters$Proxy" "pages" "I" ∈ gTbl := gTbl_of (List.mem_of_getElem? (i := 134) (by decide +kernel)) (by decide +kernel)
theorem fl_X7_106 : Cond.fieldLink RX7 106 "ShelfFilters$Proxy" "pages" "I" ∈ gTbl := gTbl_of (List.mem_of_getElem? (i := 135) (by decide +kernel)) (by decide +kernel)
theorem fl_X1_74 : Cond.fieldLink RX1 74 "ShelfFilters$Proxy" "pages" "I" ∈ gTbl := gTbl_of (List.mem_of_getElem? (i := 136) (by decide +kernel)) (by decide +kernel)
theorem fl_X4_21 : Cond.fieldLink RX4 21 "ShelfFilters$Proxy" "changes" "I" ∈ gTbl := gTbl_of (List.mem_of_getElem? (i := 137) (by decide +kernel)) (by decide +kernel)
theorem fl_X7_109 : Cond.fieldLink RX7 109 "ShelfFilters$Proxy" "changes" "I" ∈ gTbl := gTbl_of (List.mem_of_getElem? (i := 138) (by decide +kernel)) (by decide +kernel)
theorem fl_X1_137 : Cond.fieldLink RX1 137 "ShelfFilters$Proxy" "changes" "I" ∈ gTbl := gTbl_of (List.mem_of_getElem? (i := 139) (by decide +kernel)) (by decide +kernel)
theorem fl_X4_24 : Cond.fieldLink RX4 24 "ShelfFilters$Proxy" "summary" "I" ∈ gTbl := gTbl_of (List.mem_of_getElem? (i := 140) (by decide +kernel)) (by decide +kernel)
theorem fl_X7_112 : Cond.fieldLink RX7 112 "ShelfFilters$Proxy" "summary" "I" ∈ gTbl := gTbl_of (List.mem_of_getElem? (i := 141) (by decide +kernel)) (by decide +kernel)
theorem fl_X1_80 : Cond.fieldLink RX1 80 "ShelfFilters$Proxy" "summary" "I" ∈ gTbl := gTbl_of (List.mem_of_getElem? (i := 142) (by decide +kernel)) (by decide +kernel)
theorem fl_X4_27 : Cond.fieldLink RX4 27 "ShelfFilters$Proxy" "shelf" "[I" ∈ gTbl := gTbl_of (List.mem_of_getElem? (i := 143) (by decide +kernel)) (by decide +kernel)
theorem fl_X4_31 : Cond.fieldLink RX4 31 "ShelfFilters$Proxy" "counters" "[I" ∈ gTbl := gTbl_of (List.mem_of_getElem? (i := 144) (by decide +kernel)) (by decide +kernel)
theorem fl_X7_140 : Cond.fieldLink RX7 140 "ShelfFilters$Proxy" "counters" "[I" ∈ gTbl := gTbl_of (List.mem_of_getElem? (i := 145) (by decide +kernel)) (by decide +kernel)
theorem fl_X1_12 : Cond.fieldLink RX1 12 "ShelfFilters$Net" "hashing" "LShelfFilters$Hashing;" ∈ gTbl := gTbl_of (List.mem_of_getElem? (i := 161) (by decide +kernel)) (by decide +kernel)
theorem fl_X7_131 : Cond.fieldLink RX7 131 "ShelfFilters$Net" "hashing" "LShelfFilters$Hashing;" ∈ gTbl := gTbl_of (List.mem_of_getElem? (i := 162) (by decide +kernel)) (by decide +kernel)
theorem fl_X6_58 : Cond.fieldLink RX6 58 "ShelfFilters$Net" "hashing" "LShelfFilters$Hashing;" ∈ gTbl := gTbl_of (List.mem_of_getElem? (i := 163) (by decide +kernel)) (by decide +kernel)
theorem fl_X1_20 : Cond.fieldLink RX1 20 "ShelfFilters$Net" "proxies" "[LShelfFilters$Proxy;" ∈ gTbl := gTbl_of (List.mem_of_getElem? (i := 164) (by decide +kernel)) (by decide +kernel)
theorem fl_X1_24 : Cond.fieldLink RX1 24 "ShelfFilters$Net" "size" "I" ∈ gTbl := gTbl_of (List.mem_of_getElem? (i := 165) (by decide +kernel)) (by decide +kernel)
theorem fl_X7_91 : Cond.fieldLink RX7 91 "ShelfFilters$Net" "size" "I" ∈ gTbl := gTbl_of (List.mem_of_getElem? (i := 166) (by decide +kernel)) (by decide +kernel)
theorem fl_X6_70 : Cond.fieldLink RX6 70 "ShelfFilters$Net" "size" "I" ∈ gTbl := gTbl_of (List.mem_of_getElem? (i := 167) (by decide +kernel)) (by decide +kernel)
theorem fl_X1_28 : Cond.fieldLink RX1 28 "ShelfFilters$Net" "requests" "I" ∈ gTbl := gTbl_of (List.mem_of_getElem? (i := 168) (by decide +kernel)) (by decide +kernel)
theorem fl_X7_257 : Cond.fieldLink RX7 257 "ShelfFilters$Net" "requests" "I" ∈ gTbl := gTbl_of (List.mem_of_getElem? (i := 169) (by decide +kernel)) (by decide +kernel)
theorem fl_X1_31 : Cond.fieldLink RX1 31 "ShelfFilters$Net" "falseHits" "I" ∈ gTbl := gTbl_of (List.mem_of_getElem? (i := 170) (by decide +kernel)) (by decide +kernel)
theorem fl_X7_260 : Cond.fieldLink RX7 260 "ShelfFilters$Net" "falseHits" "I" ∈ gTbl := gTbl_of (List.mem_of_getElem? (i := 171) (by decide +kernel)) (by decide +kernel)
theorem fl_X1_34 : Cond.fieldLink RX1 34 "ShelfFilters$Net" "fetches" "I" ∈ gTbl := gTbl_of (List.mem_of_getElem? (i := 172) (by decide +kernel)) (by decide +kernel)
theorem fl_X7_263 : Cond.fieldLink RX7 263 "ShelfFilters$Net" "fetches" "I" ∈ gTbl := gTbl_of (List.mem_of_getElem? (i := 173) (by decide +kernel)) (by decide +kernel)
theorem fl_X1_37 : Cond.fieldLink RX1 37 "ShelfFilters$Net" "messages" "I" ∈ gTbl := gTbl_of (List.mem_of_getElem? (i := 174) (by decide +kernel)) (by decide +kernel)
theorem fl_X7_266 : Cond.fieldLink RX7 266 "ShelfFilters$Net" "messages" "I" ∈ gTbl := gTbl_of (List.mem_of_getElem? (i := 175) (by decide +kernel)) (by decide +kernel)
theorem fl_X6_9 : Cond.fieldLink RX6 9 "ShelfFilters$Text" "length" "I" ∈ gTbl := gTbl_of (List.mem_of_getElem? (i := 191) (by decide +kernel)) (by decide +kernel)
theorem fl_X7_73 : Cond.fieldLink RX7 73 "ShelfFilters$Text" "length" "I" ∈ gTbl := gTbl_of (List.mem_of_getElem? (i := 192) (by decide +kernel)) (by decide +kernel)
theorem fl_X6_18 : Cond.fieldLink RX6 18 "ShelfFilters$Text" "net" "LShelfFilters$Net;" ∈ gTbl := gTbl_of (List.mem_of_getElem? (i := 193) (by decide +kernel)) (by decide +kernel)
theorem fl_X7_81 : Cond.fieldLink RX7 81 "ShelfFilters$Text" "net" "LShelfFilters$Net;" ∈ gTbl := gTbl_of (List.mem_of_getElem? (i := 194) (by decide +kernel)) (by decide +kernel)
theorem fl_X6_22 : Cond.fieldLink RX6 22 "ShelfFilters$Text" "letters" "[I" ∈ gTbl := gTbl_of (List.mem_of_getElem? (i := 195) (by decide +kernel)) (by decide +kernel)
theorem fl_X6_26 : Cond.fieldLink RX6 26 "ShelfFilters$Text" "at" "I" ∈ gTbl := gTbl_of (List.mem_of_getElem? (i := 196) (by decide +kernel)) (by decide +kernel)
theorem fl_X6_29 : Cond.fieldLink RX6 29 "ShelfFilters$Text" "digit" "I" ∈ gTbl := gTbl_of (List.mem_of_getElem? (i := 197) (by decide +kernel)) (by decide +kernel)
theorem cl_X7_16 : Cond.classLink RX7 16 RX1 ∈ gTbl := gTbl_of (List.mem_of_getElem? (i := 209) (by decide +kernel)) (by decide +kernel)
theorem ml_X7_18 : Cond.methodLink RX7 18 yX1_init ∈ gTbl := gTbl_of (List.mem_of_getElem? (i := 210) (by decide +kernel)) (by decide +kernel)
theorem cl_X7_26 : Cond.classLink RX7 26 RX3 ∈ gTbl := gTbl_of (List.mem_of_getElem? (i := 211) (by decide +kernel)) (by decide +kernel)
theorem it_X3 : Cond.instantiable RX3 3 ∈ gTbl := gTbl_of (List.mem_of_getElem? (i := 212) (by decide +kernel)) (by decide +kernel)
theorem ml_X7_28 : Cond.methodLink RX7 28 yX3_init ∈ gTbl := gTbl_of (List.mem_of_getElem? (i := 213) (by decide +kernel)) (by decide +kernel)
theorem ml_X3_3 : Cond.methodLink RX3 3 ⟨"java/lang/Object", "<init>", "()V"⟩ ∈ gTbl := gTbl_of (List.mem_of_getElem? (i := 216) (by decide +kernel)) (by decide +kernel)
theorem cl_X3_9 : Cond.classLink RX3 9 RX1 ∈ gTbl := gTbl_of (List.mem_of_getElem? (i := 217) (by decide +kernel)) (by decide +kernel)
theorem ao_X1 : Cond.arrayOver (Jvm.ClassFile.FieldType.object "ShelfFilters$Net") ∈ lw_tbl := List.mem_of_getElem? (i := 218) (by decide +kernel)
theorem ml_X3_24 : Cond.methodLink RX3 24 yX1_init ∈ gTbl := gTbl_of (List.mem_of_getElem? (i := 219) (by decide +kernel)) (by decide +kernel)
theorem fl_X3_11 : Cond.fieldLink RX3 11 "ShelfFilters$Past" "nets" "[LShelfFilters$Net;" ∈ gTbl := gTbl_of (List.mem_of_getElem? (i := 220) (by decide +kernel)) (by decide +kernel)
theorem fl_X3_17 : Cond.fieldLink RX3 17 "ShelfFilters$Past" "next" "I" ∈ gTbl := gTbl_of (List.mem_of_getElem? (i := 221) (by decide +kernel)) (by decide +kernel)
theorem fl_X3_21 : Cond.fieldLink RX3 21 "ShelfFilters$Past" "size" "I" ∈ gTbl := gTbl_of (List.mem_of_getElem? (i := 222) (by decide +kernel)) (by decide +kernel)
theorem fl_X7_192 : Cond.fieldLink RX7 192 "ShelfFilters$Past" "size" "I" ∈ gTbl := gTbl_of (List.mem_of_getElem? (i := 223) (by decide +kernel)) (by decide +kernel)
theorem cl_X7_41 : Cond.classLink RX7 41 RX5 ∈ gTbl := gTbl_of (List.mem_of_getElem? (i := 231) (by decide +kernel)) (by decide +kernel)
theorem it_X5 : Cond.instantiable RX5 4 ∈ gTbl := gTbl_of (List.mem_of_getElem? (i := 232) (by decide +kernel)) (by decide +kernel)
theorem ml_X5_3 : Cond.methodLink RX5 3 ⟨"java/lang/Object", "<init>", "()V"⟩ ∈ gTbl := gTbl_of (List.mem_of_getElem? (i := 236) (by decide +kernel)) (by decide +kernel)
theorem fl_X5_9 : Cond.fieldLink RX5 9 "ShelfFilters$Sightings" "proxies" "[I" ∈ gTbl := gTbl_of (List.mem_of_getElem? (i := 237) (by decide +kernel)) (by decide +kernel)
theorem fl_X5_15 : Cond.fieldLink RX5 15 "ShelfFilters$Sightings" "sorts" "[I" ∈ gTbl := gTbl_of (List.mem_of_getElem? (i := 238) (by decide +kernel)) (by decide +kernel)
theorem fl_X5_18 : Cond.fieldLink RX5 18 "ShelfFilters$Sightings" "truths" "[Z" ∈ gTbl := gTbl_of (List.mem_of_getElem? (i := 239) (by decide +kernel)) (by decide +kernel)
theorem fl_X5_22 : Cond.fieldLink RX5 22 "ShelfFilters$Sightings" "size" "I" ∈ gTbl := gTbl_of (List.mem_of_getElem? (i := 240) (by decide +kernel)) (by decide +kernel)
theorem fl_X7_230 : Cond.fieldLink RX7 230 "ShelfFilters$Sightings" "size" "I" ∈ gTbl := gTbl_of (List.mem_of_getElem? (i := 241) (by decide +kernel)) (by decide +kernel)
theorem ac_boolean : Cond.arrayClass Jvm.ClassFile.FieldType.boolean ∈ gTbl := gTbl_of (List.mem_of_getElem? (i := 251) (by decide +kernel)) (by decide +kernel)
theorem cl_X7_48 : Cond.classLink RX7 48 RX2 ∈ gTbl := gTbl_of (List.mem_of_getElem? (i := 252) (by decide +kernel)) (by decide +kernel)
theorem it_X2 : Cond.instantiable RX2 2 ∈ gTbl := gTbl_of (List.mem_of_getElem? (i := 253) (by decide +kernel)) (by decide +kernel)
theorem ml_X2_3 : Cond.methodLink RX2 3 ⟨"java/lang/Object", "<init>", "()V"⟩ ∈ gTbl := gTbl_of (List.mem_of_getElem? (i := 257) (by decide +kernel)) (by decide +kernel)
theorem fl_X2_9 : Cond.fieldLink RX2 9 "ShelfFilters$Order" "size" "I" ∈ gTbl := gTbl_of (List.mem_of_getElem? (i := 258) (by decide +kernel)) (by decide +kernel)
theorem fl_X7_291 : Cond.fieldLink RX7 291 "ShelfFilters$Order" "size" "I" ∈ gTbl := gTbl_of (List.mem_of_getElem? (i := 259) (by decide +kernel)) (by decide +kernel)
theorem fl_X2_15 : Cond.fieldLink RX2 15 "ShelfFilters$Order" "pages" "[I" ∈ gTbl := gTbl_of (List.mem_of_getElem? (i := 260) (by decide +kernel)) (by decide +kernel)
theorem ml_X7_62 : Cond.methodLink RX7 62 yX1_begin ∈ gTbl := gTbl_of (List.mem_of_getElem? (i := 266) (by decide +kernel)) (by decide +kernel)
theorem ml_X1_48 : Cond.methodLink RX1 48 yX0_begin ∈ gTbl := gTbl_of (List.mem_of_getElem? (i := 270) (by decide +kernel)) (by decide +kernel)
theorem ml_X1_52 : Cond.methodLink RX1 52 yX1_clearCounts ∈ gTbl := gTbl_of (List.mem_of_getElem? (i := 274) (by decide +kernel)) (by decide +kernel)
theorem ml_X7_66 : Cond.methodLink RX7 66 yX1_complete ∈ gTbl := gTbl_of (List.mem_of_getElem? (i := 278) (by decide +kernel)) (by decide +kernel)
theorem ml_X1_59 : Cond.methodLink RX1 59 yX0_addFamily ∈ gTbl := gTbl_of (List.mem_of_getElem? (i := 282) (by decide +kernel)) (by decide +kernel)
theorem ml_X1_62 : Cond.methodLink RX1 62 yX1_adopt ∈ gTbl := gTbl_of (List.mem_of_getElem? (i := 286) (by decide +kernel)) (by decide +kernel)
theorem ml_X1_163 : Cond.methodLink RX1 163 yX0_isFamily ∈ gTbl := gTbl_of (List.mem_of_getElem? (i := 290) (by decide +kernel)) (by decide +kernel)
theorem ml_X1_66 : Cond.methodLink RX1 66 yX1_proxyAt ∈ gTbl := gTbl_of (List.mem_of_getElem? (i := 294) (by decide +kernel)) (by decide +kernel)
theorem ml_X1_166 : Cond.methodLink RX1 166 yX1_rebuild ∈ gTbl := gTbl_of (List.mem_of_getElem? (i := 298) (by decide +kernel)) (by decide +kernel)
theorem ml_X1_169 : Cond.methodLink RX1 169 yX4_clearCounters ∈ gTbl := gTbl_of (List.mem_of_getElem? (i := 302) (by decide +kernel)) (by decide +kernel)
theorem ml_X1_98 : Cond.methodLink RX1 98 yX4_pageAt ∈ gTbl := gTbl_of (List.mem_of_getElem? (i := 306) (by decide +kernel)) (by decide +kernel)
theorem ml_X1_133 : Cond.methodLink RX1 133 yX1_tally ∈ gTbl := gTbl_of (List.mem_of_getElem? (i := 310) (by decide +kernel)) (by decide +kernel)
theorem ml_X1_149 : Cond.methodLink RX1 149 yX0_cell ∈ gTbl := gTbl_of (List.mem_of_getElem? (i := 314) (by decide +kernel)) (by decide +kernel)
theorem ml_X1_153 : Cond.methodLink RX1 153 yX4_move ∈ gTbl := gTbl_of (List.mem_of_getElem? (i := 318) (by decide +kernel)) (by decide +kernel)
theorem ml_X1_159 : Cond.methodLink RX1 159 yX1_spread ∈ gTbl := gTbl_of (List.mem_of_getElem? (i := 322) (by decide +kernel)) (by decide +kernel)
theorem ml_X1_83 : Cond.methodLink RX1 83 yX4_filterSet ∈ gTbl := gTbl_of (List.mem_of_getElem? (i := 326) (by decide +kernel)) (by decide +kernel)
theorem fl_X7_10 : Cond.fieldLink RX7 10 "ShelfFilters" "text" "LShelfFilters$Text;" ∈ gTbl := gTbl_of (List.mem_of_getElem? (i := 330) (by decide +kernel)) (by decide +kernel)
theorem fl_X7_19 : Cond.fieldLink RX7 19 "ShelfFilters" "current" "LShelfFilters$Net;" ∈ gTbl := gTbl_of (List.mem_of_getElem? (i := 331) (by decide +kernel)) (by decide +kernel)
theorem fl_X7_23 : Cond.fieldLink RX7 23 "ShelfFilters" "trial" "LShelfFilters$Net;" ∈ gTbl := gTbl_of (List.mem_of_getElem? (i := 332) (by decide +kernel)) (by decide +kernel)
theorem fl_X7_29 : Cond.fieldLink RX7 29 "ShelfFilters" "past" "LShelfFilters$Past;" ∈ gTbl := gTbl_of (List.mem_of_getElem? (i := 333) (by decide +kernel)) (by decide +kernel)
theorem fl_X7_33 : Cond.fieldLink RX7 33 "ShelfFilters" "slots" "[LShelfFilters$Net;" ∈ gTbl := gTbl_of (List.mem_of_getElem? (i := 334) (by decide +kernel)) (by decide +kernel)
theorem fl_X7_37 : Cond.fieldLink RX7 37 "ShelfFilters" "filled" "[Z" ∈ gTbl := gTbl_of (List.mem_of_getElem? (i := 335) (by decide +kernel)) (by decide +kernel)
theorem fl_X7_44 : Cond.fieldLink RX7 44 "ShelfFilters" "sightings" "LShelfFilters$Sightings;" ∈ gTbl := gTbl_of (List.mem_of_getElem? (i := 336) (by decide +kernel)) (by decide +kernel)
theorem fl_X7_51 : Cond.fieldLink RX7 51 "ShelfFilters" "tried" "LShelfFilters$Order;" ∈ gTbl := gTbl_of (List.mem_of_getElem? (i := 337) (by decide +kernel)) (by decide +kernel)
theorem fl_X7_55 : Cond.fieldLink RX7 55 "ShelfFilters" "cheapest" "LShelfFilters$Order;" ∈ gTbl := gTbl_of (List.mem_of_getElem? (i := 338) (by decide +kernel)) (by decide +kernel)
theorem fl_X7_58 : Cond.fieldLink RX7 58 "ShelfFilters" "chance" "J" ∈ gTbl := gTbl_of (List.mem_of_getElem? (i := 339) (by decide +kernel)) (by decide +kernel)
theorem ml_L_13 : Cond.methodLink RL 13 yX7_write ∈ gTbl := gTbl_of (List.mem_of_getElem? (i := 361) (by decide +kernel)) (by decide +kernel)
theorem ml_X7_69 : Cond.methodLink RX7 69 yX6_append ∈ gTbl := gTbl_of (List.mem_of_getElem? (i := 365) (by decide +kernel)) (by decide +kernel)
theorem ml_L_18 : Cond.methodLink RL 18 yX7_wipe ∈ gTbl := gTbl_of (List.mem_of_getElem? (i := 369) (by decide +kernel)) (by decide +kernel)
theorem ml_L_23 : Cond.methodLink RL 23 yX7_fault ∈ gTbl := gTbl_of (List.mem_of_getElem? (i := 373) (by decide +kernel)) (by decide +kernel)
theorem ml_X7_77 : Cond.methodLink RX7 77 yX6_read ∈ gTbl := gTbl_of (List.mem_of_getElem? (i := 377) (by decide +kernel)) (by decide +kernel)
theorem ml_X6_32 : Cond.methodLink RX6 32 yX6_readHead ∈ gTbl := gTbl_of (List.mem_of_getElem? (i := 381) (by decide +kernel)) (by decide +kernel)
theorem ml_X6_46 : Cond.methodLink RX6 46 yX6_pass ∈ gTbl := gTbl_of (List.mem_of_getElem? (i := 385) (by decide +kernel)) (by decide +kernel)
theorem ml_X6_42 : Cond.methodLink RX6 42 yX6_letter ∈ gTbl := gTbl_of (List.mem_of_getElem? (i := 389) (by decide +kernel)) (by decide +kernel)
theorem ml_X6_50 : Cond.methodLink RX6 50 yX6_passDigit ∈ gTbl := gTbl_of (List.mem_of_getElem? (i := 393) (by decide +kernel)) (by decide +kernel)
theorem ml_X6_54 : Cond.methodLink RX6 54 yX1_begin ∈ gTbl := gTbl_of (List.mem_of_getElem? (i := 397) (by decide +kernel)) (by decide +kernel)
theorem ml_X6_36 : Cond.methodLink RX6 36 yX6_readPart ∈ gTbl := gTbl_of (List.mem_of_getElem? (i := 398) (by decide +kernel)) (by decide +kernel)
theorem ml_X6_67 : Cond.methodLink RX6 67 yX6_readFamily ∈ gTbl := gTbl_of (List.mem_of_getElem? (i := 402) (by decide +kernel)) (by decide +kernel)
theorem ml_X6_82 : Cond.methodLink RX6 82 yX0_addFamily ∈ gTbl := gTbl_of (List.mem_of_getElem? (i := 406) (by decide +kernel)) (by decide +kernel)
theorem ml_X6_73 : Cond.methodLink RX6 73 yX6_readProxy ∈ gTbl := gTbl_of (List.mem_of_getElem? (i := 407) (by decide +kernel)) (by decide +kernel)
theorem ml_X6_85 : Cond.methodLink RX6 85 yX1_addProxy ∈ gTbl := gTbl_of (List.mem_of_getElem? (i := 411) (by decide +kernel)) (by decide +kernel)
theorem ml_X1_55 : Cond.methodLink RX1 55 yX4_begin ∈ gTbl := gTbl_of (List.mem_of_getElem? (i := 415) (by decide +kernel)) (by decide +kernel)
theorem ml_X4_38 : Cond.methodLink RX4 38 yX4_clearCounters ∈ gTbl := gTbl_of (List.mem_of_getElem? (i := 419) (by decide +kernel)) (by decide +kernel)
theorem ml_X6_76 : Cond.methodLink RX6 76 yX1_anyRoom ∈ gTbl := gTbl_of (List.mem_of_getElem? (i := 420) (by decide +kernel)) (by decide +kernel)
theorem ml_X1_70 : Cond.methodLink RX1 70 yX4_hasRoom ∈ gTbl := gTbl_of (List.mem_of_getElem? (i := 424) (by decide +kernel)) (by decide +kernel)
theorem ml_X6_79 : Cond.methodLink RX6 79 yX6_readShelved ∈ gTbl := gTbl_of (List.mem_of_getElem? (i := 428) (by decide +kernel)) (by decide +kernel)
theorem ml_X6_88 : Cond.methodLink RX6 88 yX1_proxyAt ∈ gTbl := gTbl_of (List.mem_of_getElem? (i := 432) (by decide +kernel)) (by decide +kernel)
theorem ml_X6_92 : Cond.methodLink RX6 92 yX4_hasRoom ∈ gTbl := gTbl_of (List.mem_of_getElem? (i := 433) (by decide +kernel)) (by decide +kernel)
theorem ml_X6_97 : Cond.methodLink RX6 97 yX6_mayBegin ∈ gTbl := gTbl_of (List.mem_of_getElem? (i := 434) (by decide +kernel)) (by decide +kernel)
theorem ml_X6_104 : Cond.methodLink RX6 104 yX4_has ∈ gTbl := gTbl_of (List.mem_of_getElem? (i := 440) (by decide +kernel)) (by decide +kernel)
theorem ml_X4_41 : Cond.methodLink RX4 41 yX4_placeOf ∈ gTbl := gTbl_of (List.mem_of_getElem? (i := 444) (by decide +kernel)) (by decide +kernel)
theorem ml_X6_107 : Cond.methodLink RX6 107 yX4_addOldest ∈ gTbl := gTbl_of (List.mem_of_getElem? (i := 448) (by decide +kernel)) (by decide +kernel)
theorem ml_X6_39 : Cond.methodLink RX6 39 yX1_complete ∈ gTbl := gTbl_of (List.mem_of_getElem? (i := 452) (by decide +kernel)) (by decide +kernel)
theorem ml_L_27 : Cond.methodLink RL 27 yX7_net ∈ gTbl := gTbl_of (List.mem_of_getElem? (i := 453) (by decide +kernel)) (by decide +kernel)
theorem ml_X7_84 : Cond.methodLink RX7 84 yX1_take ∈ gTbl := gTbl_of (List.mem_of_getElem? (i := 457) (by decide +kernel)) (by decide +kernel)
theorem ml_X1_41 : Cond.methodLink RX1 41 yX0_take ∈ gTbl := gTbl_of (List.mem_of_getElem? (i := 461) (by decide +kernel)) (by decide +kernel)
theorem ml_X1_45 : Cond.methodLink RX1 45 yX4_take ∈ gTbl := gTbl_of (List.mem_of_getElem? (i := 468) (by decide +kernel)) (by decide +kernel)
theorem ml_X7_88 : Cond.methodLink RX7 88 yX3_forget ∈ gTbl := gTbl_of (List.mem_of_getElem? (i := 473) (by decide +kernel)) (by decide +kernel)
theorem ml_L_31 : Cond.methodLink RL 31 yX7_proxy ∈ gTbl := gTbl_of (List.mem_of_getElem? (i := 477) (by decide +kernel)) (by decide +kernel)
theorem ml_X7_94 : Cond.methodLink RX7 94 yX1_proxyAt ∈ gTbl := gTbl_of (List.mem_of_getElem? (i := 481) (by decide +kernel)) (by decide +kernel)
theorem ml_X7_115 : Cond.methodLink RX7 115 yX1_claimed ∈ gTbl := gTbl_of (List.mem_of_getElem? (i := 482) (by decide +kernel)) (by decide +kernel)
theorem ml_X1_94 : Cond.methodLink RX1 94 yX0_pagesIn ∈ gTbl := gTbl_of (List.mem_of_getElem? (i := 486) (by decide +kernel)) (by decide +kernel)
theorem ml_X0_39 : Cond.methodLink RX0 39 yX0_contains ∈ gTbl := gTbl_of (List.mem_of_getElem? (i := 490) (by decide +kernel)) (by decide +kernel)
theorem ml_X0_35 : Cond.methodLink RX0 35 yX0_cell ∈ gTbl := gTbl_of (List.mem_of_getElem? (i := 494) (by decide +kernel)) (by decide +kernel)
theorem ml_X7_119 : Cond.methodLink RX7 119 yX4_shelfSet ∈ gTbl := gTbl_of (List.mem_of_getElem? (i := 495) (by decide +kernel)) (by decide +kernel)
theorem ml_X7_122 : Cond.methodLink RX7 122 yJ6_bitCount_0f7a4 ∈ gTbl := gTbl_of (List.mem_of_getElem? (i := 499) (by decide +kernel)) (by decide +kernel)
theorem cn_J6_265 : Cond.constant RJ6 265 (1431655765) ∈ gTbl := gTbl_of (List.mem_of_getElem? (i := 502) (by decide +kernel)) (by decide +kernel)
theorem cn_J6_266 : Cond.constant RJ6 266 (858993459) ∈ gTbl := gTbl_of (List.mem_of_getElem? (i := 503) (by decide +kernel)) (by decide +kernel)
theorem cn_J6_267 : Cond.constant RJ6 267 (252645135) ∈ gTbl := gTbl_of (List.mem_of_getElem? (i := 504) (by decide +kernel)) (by decide +kernel)
theorem ml_L_36 : Cond.methodLink RL 36 yX7_page ∈ gTbl := gTbl_of (List.mem_of_getElem? (i := 505) (by decide +kernel)) (by decide +kernel)
theorem ml_X7_128 : Cond.methodLink RX7 128 yX4_pageAt ∈ gTbl := gTbl_of (List.mem_of_getElem? (i := 509) (by decide +kernel)) (by decide +kernel)
theorem ml_L_40 : Cond.methodLink RL 40 yX7_counter ∈ gTbl := gTbl_of (List.mem_of_getElem? (i := 510) (by decide +kernel)) (by decide +kernel)
theorem ml_L_44 : Cond.methodLink RL 44 yX7_hash ∈ gTbl := gTbl_of (List.mem_of_getElem? (i := 514) (by decide +kernel)) (by decide +kernel)
theorem ml_X7_144 : Cond.methodLink RX7 144 yX0_isFamily ∈ gTbl := gTbl_of (List.mem_of_getElem? (i := 518) (by decide +kernel)) (by decide +kernel)
theorem ml_X7_147 : Cond.methodLink RX7 147 yX7_isPage ∈ gTbl := gTbl_of (List.mem_of_getElem? (i := 519) (by decide +kernel)) (by decide +kernel)
theorem ml_X7_153 : Cond.methodLink RX7 153 yX0_cell ∈ gTbl := gTbl_of (List.mem_of_getElem? (i := 520) (by decide +kernel)) (by decide +kernel)
theorem ml_L_49 : Cond.methodLink RL 49 yX7_says ∈ gTbl := gTbl_of (List.mem_of_getElem? (i := 521) (by decide +kernel)) (by decide +kernel)
theorem ml_X7_157 : Cond.methodLink RX7 157 yX1_isSo ∈ gTbl := gTbl_of (List.mem_of_getElem? (i := 525) (by decide +kernel)) (by decide +kernel)
theorem ml_X1_77 : Cond.methodLink RX1 77 yX4_has ∈ gTbl := gTbl_of (List.mem_of_getElem? (i := 529) (by decide +kernel)) (by decide +kernel)
theorem ml_X1_90 : Cond.methodLink RX1 90 yX0_contains ∈ gTbl := gTbl_of (List.mem_of_getElem? (i := 530) (by decide +kernel)) (by decide +kernel)
theorem ml_L_54 : Cond.methodLink RL 54 yX7_ask ∈ gTbl := gTbl_of (List.mem_of_getElem? (i := 531) (by decide +kernel)) (by decide +kernel)
theorem ml_X7_161 : Cond.methodLink RX7 161 yX3_record ∈ gTbl := gTbl_of (List.mem_of_getElem? (i := 535) (by decide +kernel)) (by decide +kernel)
theorem ml_X3_29 : Cond.methodLink RX3 29 yX1_take ∈ gTbl := gTbl_of (List.mem_of_getElem? (i := 542) (by decide +kernel)) (by decide +kernel)
theorem ml_X3_33 : Cond.methodLink RX3 33 yJ9_min_7cf53 ∈ gTbl := gTbl_of (List.mem_of_getElem? (i := 543) (by decide +kernel)) (by decide +kernel)
theorem ml_X7_164 : Cond.methodLink RX7 164 yX1_request ∈ gTbl := gTbl_of (List.mem_of_getElem? (i := 546) (by decide +kernel)) (by decide +kernel)
theorem ml_X1_113 : Cond.methodLink RX1 113 yX4_renew ∈ gTbl := gTbl_of (List.mem_of_getElem? (i := 550) (by decide +kernel)) (by decide +kernel)
theorem ml_X4_45 : Cond.methodLink RX4 45 yX4_removeAt ∈ gTbl := gTbl_of (List.mem_of_getElem? (i := 554) (by decide +kernel)) (by decide +kernel)
theorem ml_X4_49 : Cond.methodLink RX4 49 yX4_addNewest ∈ gTbl := gTbl_of (List.mem_of_getElem? (i := 558) (by decide +kernel)) (by decide +kernel)
theorem ml_X1_117 : Cond.methodLink RX1 117 yX1_searchOthers ∈ gTbl := gTbl_of (List.mem_of_getElem? (i := 562) (by decide +kernel)) (by decide +kernel)
theorem ml_X1_120 : Cond.methodLink RX1 120 yX1_removePage ∈ gTbl := gTbl_of (List.mem_of_getElem? (i := 566) (by decide +kernel)) (by decide +kernel)
theorem ml_X1_140 : Cond.methodLink RX1 140 yX4_placeOf ∈ gTbl := gTbl_of (List.mem_of_getElem? (i := 570) (by decide +kernel)) (by decide +kernel)
theorem ml_X1_143 : Cond.methodLink RX1 143 yX4_removeAt ∈ gTbl := gTbl_of (List.mem_of_getElem? (i := 571) (by decide +kernel)) (by decide +kernel)
theorem ml_X1_124 : Cond.methodLink RX1 124 yX1_addPage ∈ gTbl := gTbl_of (List.mem_of_getElem? (i := 572) (by decide +kernel)) (by decide +kernel)
theorem ml_X1_130 : Cond.methodLink RX1 130 yX4_addNewest ∈ gTbl := gTbl_of (List.mem_of_getElem? (i := 576) (by decide +kernel)) (by decide +kernel)
theorem ml_X1_127 : Cond.methodLink RX1 127 yX1_spreadDue ∈ gTbl := gTbl_of (List.mem_of_getElem? (i := 577) (by decide +kernel)) (by decide +kernel)
theorem ml_L_58 : Cond.methodLink RL 58 yX7_drop ∈ gTbl := gTbl_of (List.mem_of_getElem? (i := 581) (by decide +kernel)) (by decide +kernel)
theorem ml_X7_168 : Cond.methodLink RX7 168 yX4_has ∈ gTbl := gTbl_of (List.mem_of_getElem? (i := 585) (by decide +kernel)) (by decide +kernel)
theorem ml_X7_171 : Cond.methodLink RX7 171 yX1_discard ∈ gTbl := gTbl_of (List.mem_of_getElem? (i := 586) (by decide +kernel)) (by decide +kernel)
theorem ml_L_62 : Cond.methodLink RL 62 yX7_send ∈ gTbl := gTbl_of (List.mem_of_getElem? (i := 590) (by decide +kernel)) (by decide +kernel)
theorem ml_X7_175 : Cond.methodLink RX7 175 yX1_spread ∈ gTbl := gTbl_of (List.mem_of_getElem? (i := 594) (by decide +kernel)) (by decide +kernel)
theorem ml_L_66 : Cond.methodLink RL 66 yX7_threshold ∈ gTbl := gTbl_of (List.mem_of_getElem? (i := 595) (by decide +kernel)) (by decide +kernel)
theorem ml_X7_179 : Cond.methodLink RX7 179 yX1_spreadDue ∈ gTbl := gTbl_of (List.mem_of_getElem? (i := 599) (by decide +kernel)) (by decide +kernel)
theorem ml_L_70 : Cond.methodLink RL 70 yX7_use ∈ gTbl := gTbl_of (List.mem_of_getElem? (i := 600) (by decide +kernel)) (by decide +kernel)
theorem ml_X7_185 : Cond.methodLink RX7 185 yX1_adopt ∈ gTbl := gTbl_of (List.mem_of_getElem? (i := 604) (by decide +kernel)) (by decide +kernel)
theorem ml_L_74 : Cond.methodLink RL 74 yX7_undo ∈ gTbl := gTbl_of (List.mem_of_getElem? (i := 605) (by decide +kernel)) (by decide +kernel)
theorem ml_X7_188 : Cond.methodLink RX7 188 yX3_restore ∈ gTbl := gTbl_of (List.mem_of_getElem? (i := 609) (by decide +kernel)) (by decide +kernel)
theorem ml_L_78 : Cond.methodLink RL 78 yX7_weight ∈ gTbl := gTbl_of (List.mem_of_getElem? (i := 613) (by decide +kernel)) (by decide +kernel)
theorem ml_X7_193 : Cond.methodLink RX7 193 yX4_filterSet ∈ gTbl := gTbl_of (List.mem_of_getElem? (i := 617) (by decide +kernel)) (by decide +kernel)
theorem ml_X7_196 : Cond.methodLink RX7 196 yX7_floatBits ∈ gTbl := gTbl_of (List.mem_of_getElem? (i := 618) (by decide +kernel)) (by decide +kernel)
theorem cn_X7_274 : Cond.constantFloat RX7 274 (1258291200) ∈ gTbl := gTbl_of (List.mem_of_getElem? (i := 621) (by decide +kernel)) (by decide +kernel)
theorem ml_L_82 : Cond.methodLink RL 82 yX7_best ∈ gTbl := gTbl_of (List.mem_of_getElem? (i := 622) (by decide +kernel)) (by decide +kernel)
theorem ml_X7_203 : Cond.methodLink RX7 203 yX1_wrongPages ∈ gTbl := gTbl_of (List.mem_of_getElem? (i := 626) (by decide +kernel)) (by decide +kernel)
theorem ml_X1_102 : Cond.methodLink RX1 102 yX0_cellSet ∈ gTbl := gTbl_of (List.mem_of_getElem? (i := 630) (by decide +kernel)) (by decide +kernel)
theorem ml_X1_105 : Cond.methodLink RX1 105 yX4_shelfSet ∈ gTbl := gTbl_of (List.mem_of_getElem? (i := 634) (by decide +kernel)) (by decide +kernel)
theorem ml_X1_108 : Cond.methodLink RX1 108 yJ6_bitCount_0f7a4 ∈ gTbl := gTbl_of (List.mem_of_getElem? (i := 635) (by decide +kernel)) (by decide +kernel)
theorem ml_L_86 : Cond.methodLink RL 86 yX7_plan ∈ gTbl := gTbl_of (List.mem_of_getElem? (i := 636) (by decide +kernel)) (by decide +kernel)
theorem ml_X7_207 : Cond.methodLink RX7 207 yX7_powerOfTen ∈ gTbl := gTbl_of (List.mem_of_getElem? (i := 640) (by decide +kernel)) (by decide +kernel)
theorem cn_X7_272 : Cond.constantLong RX7 272 (10) ∈ gTbl := gTbl_of (List.mem_of_getElem? (i := 643) (by decide +kernel)) (by decide +kernel)
theorem cn_X7_211 : Cond.constantLong RX7 211 (100) ∈ gTbl := gTbl_of (List.mem_of_getElem? (i := 644) (by decide +kernel)) (by decide +kernel)
theorem ml_X7_213 : Cond.methodLink RX7 213 yX1_cost ∈ gTbl := gTbl_of (List.mem_of_getElem? (i := 645) (by decide +kernel)) (by decide +kernel)
theorem ml_L_90 : Cond.methodLink RL 90 yX7_order ∈ gTbl := gTbl_of (List.mem_of_getElem? (i := 649) (by decide +kernel)) (by decide +kernel)
theorem ml_X7_216 : Cond.methodLink RX7 216 yX7_findCheapest ∈ gTbl := gTbl_of (List.mem_of_getElem? (i := 653) (by decide +kernel)) (by decide +kernel)
theorem ml_X7_278 : Cond.methodLink RX7 278 yX2_begin ∈ gTbl := gTbl_of (List.mem_of_getElem? (i := 657) (by decide +kernel)) (by decide +kernel)
theorem ml_X7_281 : Cond.methodLink RX7 281 yX7_triedCost ∈ gTbl := gTbl_of (List.mem_of_getElem? (i := 661) (by decide +kernel)) (by decide +kernel)
theorem ml_X7_219 : Cond.methodLink RX7 219 yX2_pageAt ∈ gTbl := gTbl_of (List.mem_of_getElem? (i := 665) (by decide +kernel)) (by decide +kernel)
theorem ml_X7_284 : Cond.methodLink RX7 284 yX2_take ∈ gTbl := gTbl_of (List.mem_of_getElem? (i := 669) (by decide +kernel)) (by decide +kernel)
theorem ml_X7_287 : Cond.methodLink RX7 287 yX2_advance ∈ gTbl := gTbl_of (List.mem_of_getElem? (i := 674) (by decide +kernel)) (by decide +kernel)
theorem ml_X2_23 : Cond.methodLink RX2 23 yX2_pageAt ∈ gTbl := gTbl_of (List.mem_of_getElem? (i := 678) (by decide +kernel)) (by decide +kernel)
theorem ml_X2_27 : Cond.methodLink RX2 27 yX2_swap ∈ gTbl := gTbl_of (List.mem_of_getElem? (i := 679) (by decide +kernel)) (by decide +kernel)
theorem ml_L_96 : Cond.methodLink RL 96 yX7_judge ∈ gTbl := gTbl_of (List.mem_of_getElem? (i := 683) (by decide +kernel)) (by decide +kernel)
theorem cn_X7_220 : Cond.constantLong RX7 220 (100000) ∈ gTbl := gTbl_of (List.mem_of_getElem? (i := 687) (by decide +kernel)) (by decide +kernel)
theorem ml_X7_222 : Cond.methodLink RX7 222 yX7_holds ∈ gTbl := gTbl_of (List.mem_of_getElem? (i := 688) (by decide +kernel)) (by decide +kernel)
theorem ml_L_101 : Cond.methodLink RL 101 yX7_see ∈ gTbl := gTbl_of (List.mem_of_getElem? (i := 691) (by decide +kernel)) (by decide +kernel)
theorem ml_X7_226 : Cond.methodLink RX7 226 yX5_add ∈ gTbl := gTbl_of (List.mem_of_getElem? (i := 695) (by decide +kernel)) (by decide +kernel)
theorem ml_L_105 : Cond.methodLink RL 105 yX7_unsee ∈ gTbl := gTbl_of (List.mem_of_getElem? (i := 699) (by decide +kernel)) (by decide +kernel)
theorem ml_L_109 : Cond.methodLink RL 109 yX7_which ∈ gTbl := gTbl_of (List.mem_of_getElem? (i := 703) (by decide +kernel)) (by decide +kernel)
theorem ml_X7_231 : Cond.methodLink RX7 231 yX5_agreeing ∈ gTbl := gTbl_of (List.mem_of_getElem? (i := 707) (by decide +kernel)) (by decide +kernel)
theorem ml_X5_26 : Cond.methodLink RX5 26 yX5_agrees ∈ gTbl := gTbl_of (List.mem_of_getElem? (i := 711) (by decide +kernel)) (by decide +kernel)
theorem ml_X5_30 : Cond.methodLink RX5 30 yX1_proxyAt ∈ gTbl := gTbl_of (List.mem_of_getElem? (i := 715) (by decide +kernel)) (by decide +kernel)
theorem ml_X5_36 : Cond.methodLink RX5 36 yX1_isSo ∈ gTbl := gTbl_of (List.mem_of_getElem? (i := 716) (by decide +kernel)) (by decide +kernel)
theorem ml_L_113 : Cond.methodLink RL 113 yX7_share ∈ gTbl := gTbl_of (List.mem_of_getElem? (i := 717) (by decide +kernel)) (by decide +kernel)
theorem ml_X7_235 : Cond.methodLink RX7 235 yX1_holders ∈ gTbl := gTbl_of (List.mem_of_getElem? (i := 721) (by decide +kernel)) (by decide +kernel)
theorem ml_X7_238 : Cond.methodLink RX7 238 yX7_ofFraction ∈ gTbl := gTbl_of (List.mem_of_getElem? (i := 725) (by decide +kernel)) (by decide +kernel)
theorem ml_X7_275 : Cond.methodLink RX7 275 yX7_commonDivisor ∈ gTbl := gTbl_of (List.mem_of_getElem? (i := 728) (by decide +kernel)) (by decide +kernel)
theorem ml_L_118 : Cond.methodLink RL 118 yX7_lost ∈ gTbl := gTbl_of (List.mem_of_getElem? (i := 731) (by decide +kernel)) (by decide +kernel)
theorem ml_X7_242 : Cond.methodLink RX7 242 yX1_servesWell ∈ gTbl := gTbl_of (List.mem_of_getElem? (i := 735) (by decide +kernel)) (by decide +kernel)
theorem ml_X1_172 : Cond.methodLink RX1 172 yX1_isSo ∈ gTbl := gTbl_of (List.mem_of_getElem? (i := 739) (by decide +kernel)) (by decide +kernel)
theorem ml_X1_176 : Cond.methodLink RX1 176 yX1_holders ∈ gTbl := gTbl_of (List.mem_of_getElem? (i := 740) (by decide +kernel)) (by decide +kernel)
theorem ml_X7_246 : Cond.methodLink RX7 246 yX7_wayWeight ∈ gTbl := gTbl_of (List.mem_of_getElem? (i := 741) (by decide +kernel)) (by decide +kernel)
theorem ml_L_123 : Cond.methodLink RL 123 yX7_seed ∈ gTbl := gTbl_of (List.mem_of_getElem? (i := 745) (by decide +kernel)) (by decide +kernel)
theorem ml_L_128 : Cond.methodLink RL 128 yX7_drawn ∈ gTbl := gTbl_of (List.mem_of_getElem? (i := 749) (by decide +kernel)) (by decide +kernel)
theorem cn_X7_249 : Cond.constantLong RX7 249 (6364136223846793005) ∈ gTbl := gTbl_of (List.mem_of_getElem? (i := 753) (by decide +kernel)) (by decide +kernel)
theorem cn_X7_251 : Cond.constantLong RX7 251 (1442695040888963407) ∈ gTbl := gTbl_of (List.mem_of_getElem? (i := 754) (by decide +kernel)) (by decide +kernel)
theorem ml_L_132 : Cond.methodLink RL 132 yX7_keep ∈ gTbl := gTbl_of (List.mem_of_getElem? (i := 755) (by decide +kernel)) (by decide +kernel)
theorem ml_X7_253 : Cond.methodLink RX7 253 yX7_netAt ∈ gTbl := gTbl_of (List.mem_of_getElem? (i := 759) (by decide +kernel)) (by decide +kernel)
theorem ml_L_136 : Cond.methodLink RL 136 yX7_again ∈ gTbl := gTbl_of (List.mem_of_getElem? (i := 760) (by decide +kernel)) (by decide +kernel)
theorem ml_L_140 : Cond.methodLink RL 140 yX7_count ∈ gTbl := gTbl_of (List.mem_of_getElem? (i := 764) (by decide +kernel)) (by decide +kernel)
theorem ml_X7_269 : Cond.methodLink RX7 269 yX1_allPages ∈ gTbl := gTbl_of (List.mem_of_getElem? (i := 768) (by decide +kernel)) (by decide +kernel)
theorem cl_L_10 : Cond.classLink RL 10 RX8 ∈ gTbl := gTbl_of (List.mem_of_getElem? (i := 772) (by decide +kernel)) (by decide +kernel)
theorem it_X8 : Cond.instantiable RX8 33 ∈ gTbl := gTbl_of (List.mem_of_getElem? (i := 773) (by decide +kernel)) (by decide +kernel)
theorem ml_L_12 : Cond.methodLink RL 12 yX8_init ∈ gTbl := gTbl_of (List.mem_of_getElem? (i := 774) (by decide +kernel)) (by decide +kernel)
theorem ml_X8_1 : Cond.methodLink RX8 1 ⟨"java/lang/Object", "<init>", "()V"⟩ ∈ gTbl := gTbl_of (List.mem_of_getElem? (i := 777) (by decide +kernel)) (by decide +kernel)
theorem fl_X8_75 : Cond.fieldLink RX8 75 "ShelfFiltersModel" "thrown" "I" ∈ gTbl := gTbl_of (List.mem_of_getElem? (i := 778) (by decide +kernel)) (by decide +kernel)
theorem fl_X8_7 : Cond.fieldLink RX8 7 "ShelfFiltersModel" "text" "[I" ∈ gTbl := gTbl_of (List.mem_of_getElem? (i := 779) (by decide +kernel)) (by decide +kernel)
theorem fl_X8_89 : Cond.fieldLink RX8 89 "ShelfFiltersModel" "textSize" "I" ∈ gTbl := gTbl_of (List.mem_of_getElem? (i := 780) (by decide +kernel)) (by decide +kernel)
theorem fl_X8_92 : Cond.fieldLink RX8 92 "ShelfFiltersModel" "place" "I" ∈ gTbl := gTbl_of (List.mem_of_getElem? (i := 781) (by decide +kernel)) (by decide +kernel)
theorem fl_X8_13 : Cond.fieldLink RX8 13 "ShelfFiltersModel" "cells" "I" ∈ gTbl := gTbl_of (List.mem_of_getElem? (i := 782) (by decide +kernel)) (by decide +kernel)
theorem fl_X8_17 : Cond.fieldLink RX8 17 "ShelfFiltersModel" "hashes" "I" ∈ gTbl := gTbl_of (List.mem_of_getElem? (i := 783) (by decide +kernel)) (by decide +kernel)
theorem fl_X8_20 : Cond.fieldLink RX8 20 "ShelfFiltersModel" "families" "I" ∈ gTbl := gTbl_of (List.mem_of_getElem? (i := 784) (by decide +kernel)) (by decide +kernel)
theorem fl_X8_23 : Cond.fieldLink RX8 23 "ShelfFiltersModel" "a" "[I" ∈ gTbl := gTbl_of (List.mem_of_getElem? (i := 785) (by decide +kernel)) (by decide +kernel)
theorem fl_X8_26 : Cond.fieldLink RX8 26 "ShelfFiltersModel" "b" "[I" ∈ gTbl := gTbl_of (List.mem_of_getElem? (i := 786) (by decide +kernel)) (by decide +kernel)
theorem fl_X8_78 : Cond.fieldLink RX8 78 "ShelfFiltersModel" "proxies" "I" ∈ gTbl := gTbl_of (List.mem_of_getElem? (i := 787) (by decide +kernel)) (by decide +kernel)
theorem fl_X8_29 : Cond.fieldLink RX8 29 "ShelfFiltersModel" "room" "[I" ∈ gTbl := gTbl_of (List.mem_of_getElem? (i := 788) (by decide +kernel)) (by decide +kernel)
theorem fl_X8_103 : Cond.fieldLink RX8 103 "ShelfFiltersModel" "readCells" "I" ∈ gTbl := gTbl_of (List.mem_of_getElem? (i := 789) (by decide +kernel)) (by decide +kernel)
theorem fl_X8_106 : Cond.fieldLink RX8 106 "ShelfFiltersModel" "readHashes" "I" ∈ gTbl := gTbl_of (List.mem_of_getElem? (i := 790) (by decide +kernel)) (by decide +kernel)
theorem fl_X8_109 : Cond.fieldLink RX8 109 "ShelfFiltersModel" "readFamilies" "I" ∈ gTbl := gTbl_of (List.mem_of_getElem? (i := 791) (by decide +kernel)) (by decide +kernel)
theorem fl_X8_32 : Cond.fieldLink RX8 32 "ShelfFiltersModel" "readA" "[I" ∈ gTbl := gTbl_of (List.mem_of_getElem? (i := 792) (by decide +kernel)) (by decide +kernel)
theorem fl_X8_35 : Cond.fieldLink RX8 35 "ShelfFiltersModel" "readB" "[I" ∈ gTbl := gTbl_of (List.mem_of_getElem? (i := 793) (by decide +kernel)) (by decide +kernel)
theorem fl_X8_112 : Cond.fieldLink RX8 112 "ShelfFiltersModel" "readProxies" "I" ∈ gTbl := gTbl_of (List.mem_of_getElem? (i := 794) (by decide +kernel)) (by decide +kernel)
theorem fl_X8_38 : Cond.fieldLink RX8 38 "ShelfFiltersModel" "readRoom" "[I" ∈ gTbl := gTbl_of (List.mem_of_getElem? (i := 795) (by decide +kernel)) (by decide +kernel)
theorem fl_X8_41 : Cond.fieldLink RX8 41 "ShelfFiltersModel" "readPage" "[I" ∈ gTbl := gTbl_of (List.mem_of_getElem? (i := 796) (by decide +kernel)) (by decide +kernel)
theorem fl_X8_44 : Cond.fieldLink RX8 44 "ShelfFiltersModel" "page" "[I" ∈ gTbl := gTbl_of (List.mem_of_getElem? (i := 797) (by decide +kernel)) (by decide +kernel)
theorem fl_X8_47 : Cond.fieldLink RX8 47 "ShelfFiltersModel" "trial" "[I" ∈ gTbl := gTbl_of (List.mem_of_getElem? (i := 798) (by decide +kernel)) (by decide +kernel)
theorem fl_X8_50 : Cond.fieldLink RX8 50 "ShelfFiltersModel" "book" "[I" ∈ gTbl := gTbl_of (List.mem_of_getElem? (i := 799) (by decide +kernel)) (by decide +kernel)
theorem fl_X8_159 : Cond.fieldLink RX8 159 "ShelfFiltersModel" "doings" "I" ∈ gTbl := gTbl_of (List.mem_of_getElem? (i := 800) (by decide +kernel)) (by decide +kernel)
theorem fl_X8_53 : Cond.fieldLink RX8 53 "ShelfFiltersModel" "kept" "[I" ∈ gTbl := gTbl_of (List.mem_of_getElem? (i := 801) (by decide +kernel)) (by decide +kernel)
theorem fl_X8_56 : Cond.fieldLink RX8 56 "ShelfFiltersModel" "isKept" "[Z" ∈ gTbl := gTbl_of (List.mem_of_getElem? (i := 802) (by decide +kernel)) (by decide +kernel)
theorem fl_X8_275 : Cond.fieldLink RX8 275 "ShelfFiltersModel" "seen" "I" ∈ gTbl := gTbl_of (List.mem_of_getElem? (i := 803) (by decide +kernel)) (by decide +kernel)
theorem fl_X8_60 : Cond.fieldLink RX8 60 "ShelfFiltersModel" "seenProxy" "[I" ∈ gTbl := gTbl_of (List.mem_of_getElem? (i := 804) (by decide +kernel)) (by decide +kernel)
theorem fl_X8_63 : Cond.fieldLink RX8 63 "ShelfFiltersModel" "seenWhat" "[I" ∈ gTbl := gTbl_of (List.mem_of_getElem? (i := 805) (by decide +kernel)) (by decide +kernel)
theorem fl_X8_66 : Cond.fieldLink RX8 66 "ShelfFiltersModel" "seenWas" "[I" ∈ gTbl := gTbl_of (List.mem_of_getElem? (i := 806) (by decide +kernel)) (by decide +kernel)
theorem fl_X8_299 : Cond.fieldLink RX8 299 "ShelfFiltersModel" "seed" "J" ∈ gTbl := gTbl_of (List.mem_of_getElem? (i := 807) (by decide +kernel)) (by decide +kernel)
theorem fl_X8_69 : Cond.fieldLink RX8 69 "ShelfFiltersModel" "asked" "[I" ∈ gTbl := gTbl_of (List.mem_of_getElem? (i := 808) (by decide +kernel)) (by decide +kernel)
theorem fl_X8_72 : Cond.fieldLink RX8 72 "ShelfFiltersModel" "best" "[I" ∈ gTbl := gTbl_of (List.mem_of_getElem? (i := 809) (by decide +kernel)) (by decide +kernel)
theorem fl_X8_251 : Cond.fieldLink RX8 251 "ShelfFiltersModel" "bestCost" "I" ∈ gTbl := gTbl_of (List.mem_of_getElem? (i := 810) (by decide +kernel)) (by decide +kernel)
theorem ml_L_17 : Cond.methodLink RL 17 yX8_write ∈ gTbl := gTbl_of (List.mem_of_getElem? (i := 878) (by decide +kernel)) (by decide +kernel)
theorem cn_X8_87 : Cond.constantLong RX8 87 (255) ∈ gTbl := gTbl_of (List.mem_of_getElem? (i := 882) (by decide +kernel)) (by decide +kernel)
theorem ml_X8_81 : Cond.methodLink RX8 81 yX8_in ∈ gTbl := gTbl_of (List.mem_of_getElem? (i := 883) (by decide +kernel)) (by decide +kernel)
theorem ml_L_22 : Cond.methodLink RL 22 yX8_wipe ∈ gTbl := gTbl_of (List.mem_of_getElem? (i := 886) (by decide +kernel)) (by decide +kernel)
theorem ml_L_26 : Cond.methodLink RL 26 yX8_fault ∈ gTbl := gTbl_of (List.mem_of_getElem? (i := 890) (by decide +kernel)) (by decide +kernel)
theorem ml_X8_147 : Cond.methodLink RX8 147 yX8_readNet ∈ gTbl := gTbl_of (List.mem_of_getElem? (i := 894) (by decide +kernel)) (by decide +kernel)
theorem ml_X8_141 : Cond.methodLink RX8 141 yX8_readHead ∈ gTbl := gTbl_of (List.mem_of_getElem? (i := 898) (by decide +kernel)) (by decide +kernel)
theorem ml_X8_95 : Cond.methodLink RX8 95 yX8_isFigure ∈ gTbl := gTbl_of (List.mem_of_getElem? (i := 902) (by decide +kernel)) (by decide +kernel)
theorem ml_X8_99 : Cond.methodLink RX8 99 yX8_taken ∈ gTbl := gTbl_of (List.mem_of_getElem? (i := 906) (by decide +kernel)) (by decide +kernel)
theorem ml_X8_144 : Cond.methodLink RX8 144 yX8_readPart ∈ gTbl := gTbl_of (List.mem_of_getElem? (i := 910) (by decide +kernel)) (by decide +kernel)
theorem ml_X8_131 : Cond.methodLink RX8 131 yX8_readFamily ∈ gTbl := gTbl_of (List.mem_of_getElem? (i := 914) (by decide +kernel)) (by decide +kernel)
theorem ml_X8_135 : Cond.methodLink RX8 135 yX8_readProxy ∈ gTbl := gTbl_of (List.mem_of_getElem? (i := 918) (by decide +kernel)) (by decide +kernel)
theorem ml_X8_138 : Cond.methodLink RX8 138 yX8_readShelf ∈ gTbl := gTbl_of (List.mem_of_getElem? (i := 922) (by decide +kernel)) (by decide +kernel)
theorem ml_X8_119 : Cond.methodLink RX8 119 yX8_hasRoom ∈ gTbl := gTbl_of (List.mem_of_getElem? (i := 926) (by decide +kernel)) (by decide +kernel)
theorem cn_X8_123 : Cond.constantLong RX8 123 (3) ∈ gTbl := gTbl_of (List.mem_of_getElem? (i := 930) (by decide +kernel)) (by decide +kernel)
theorem ml_X8_125 : Cond.methodLink RX8 125 yX8_mayCome ∈ gTbl := gTbl_of (List.mem_of_getElem? (i := 931) (by decide +kernel)) (by decide +kernel)
theorem ml_X8_115 : Cond.methodLink RX8 115 yX8_placeOf ∈ gTbl := gTbl_of (List.mem_of_getElem? (i := 935) (by decide +kernel)) (by decide +kernel)
theorem cn_X8_129 : Cond.constantLong RX8 129 (9) ∈ gTbl := gTbl_of (List.mem_of_getElem? (i := 938) (by decide +kernel)) (by decide +kernel)
theorem ml_L_30 : Cond.methodLink RL 30 yX8_net ∈ gTbl := gTbl_of (List.mem_of_getElem? (i := 939) (by decide +kernel)) (by decide +kernel)
theorem ml_X8_151 : Cond.methodLink RX8 151 yX8_makeAnew ∈ gTbl := gTbl_of (List.mem_of_getElem? (i := 943) (by decide +kernel)) (by decide +kernel)
theorem ml_X8_172 : Cond.methodLink RX8 172 yX8_tally ∈ gTbl := gTbl_of (List.mem_of_getElem? (i := 947) (by decide +kernel)) (by decide +kernel)
theorem ml_X8_162 : Cond.methodLink RX8 162 yX8_hashOf ∈ gTbl := gTbl_of (List.mem_of_getElem? (i := 951) (by decide +kernel)) (by decide +kernel)
theorem ml_X8_155 : Cond.methodLink RX8 155 yX8_filterOf ∈ gTbl := gTbl_of (List.mem_of_getElem? (i := 955) (by decide +kernel)) (by decide +kernel)
theorem ml_L_35 : Cond.methodLink RL 35 yX8_proxy ∈ gTbl := gTbl_of (List.mem_of_getElem? (i := 959) (by decide +kernel)) (by decide +kernel)
theorem ml_X8_200 : Cond.methodLink RX8 200 yX8_noProxy ∈ gTbl := gTbl_of (List.mem_of_getElem? (i := 963) (by decide +kernel)) (by decide +kernel)
theorem ml_X8_197 : Cond.methodLink RX8 197 yX8_shelfOf ∈ gTbl := gTbl_of (List.mem_of_getElem? (i := 967) (by decide +kernel)) (by decide +kernel)
theorem ml_X8_203 : Cond.methodLink RX8 203 yX8_falseOnes ∈ gTbl := gTbl_of (List.mem_of_getElem? (i := 970) (by decide +kernel)) (by decide +kernel)
theorem ml_X8_166 : Cond.methodLink RX8 166 yX8_has ∈ gTbl := gTbl_of (List.mem_of_getElem? (i := 974) (by decide +kernel)) (by decide +kernel)
theorem ml_X8_169 : Cond.methodLink RX8 169 yX8_isSaid ∈ gTbl := gTbl_of (List.mem_of_getElem? (i := 977) (by decide +kernel)) (by decide +kernel)
theorem ml_X8_206 : Cond.methodLink RX8 206 yX8_denied ∈ gTbl := gTbl_of (List.mem_of_getElem? (i := 981) (by decide +kernel)) (by decide +kernel)
theorem ml_X8_190 : Cond.methodLink RX8 190 yX8_summarySays ∈ gTbl := gTbl_of (List.mem_of_getElem? (i := 985) (by decide +kernel)) (by decide +kernel)
theorem ml_L_39 : Cond.methodLink RL 39 yX8_page ∈ gTbl := gTbl_of (List.mem_of_getElem? (i := 989) (by decide +kernel)) (by decide +kernel)
theorem cn_X8_209 : Cond.constantLong RX8 209 (8) ∈ gTbl := gTbl_of (List.mem_of_getElem? (i := 993) (by decide +kernel)) (by decide +kernel)
theorem ml_L_43 : Cond.methodLink RL 43 yX8_counter ∈ gTbl := gTbl_of (List.mem_of_getElem? (i := 994) (by decide +kernel)) (by decide +kernel)
theorem ml_L_48 : Cond.methodLink RL 48 yX8_hash ∈ gTbl := gTbl_of (List.mem_of_getElem? (i := 998) (by decide +kernel)) (by decide +kernel)
theorem ml_X8_211 : Cond.methodLink RX8 211 yX8_noPage ∈ gTbl := gTbl_of (List.mem_of_getElem? (i := 1002) (by decide +kernel)) (by decide +kernel)
theorem cn_X8_85 : Cond.constantLong RX8 85 (31) ∈ gTbl := gTbl_of (List.mem_of_getElem? (i := 1005) (by decide +kernel)) (by decide +kernel)
theorem ml_L_53 : Cond.methodLink RL 53 yX8_says ∈ gTbl := gTbl_of (List.mem_of_getElem? (i := 1006) (by decide +kernel)) (by decide +kernel)
theorem ml_L_57 : Cond.methodLink RL 57 yX8_ask ∈ gTbl := gTbl_of (List.mem_of_getElem? (i := 1010) (by decide +kernel)) (by decide +kernel)
theorem ml_X8_214 : Cond.methodLink RX8 214 yX8_note ∈ gTbl := gTbl_of (List.mem_of_getElem? (i := 1014) (by decide +kernel)) (by decide +kernel)
theorem ml_X8_217 : Cond.methodLink RX8 217 yX8_askOn ∈ gTbl := gTbl_of (List.mem_of_getElem? (i := 1018) (by decide +kernel)) (by decide +kernel)
theorem ml_X8_180 : Cond.methodLink RX8 180 yX8_freshen ∈ gTbl := gTbl_of (List.mem_of_getElem? (i := 1022) (by decide +kernel)) (by decide +kernel)
theorem ml_X8_186 : Cond.methodLink RX8 186 yX8_sendDue ∈ gTbl := gTbl_of (List.mem_of_getElem? (i := 1025) (by decide +kernel)) (by decide +kernel)
theorem ml_X8_183 : Cond.methodLink RX8 183 yX8_sendOn ∈ gTbl := gTbl_of (List.mem_of_getElem? (i := 1029) (by decide +kernel)) (by decide +kernel)
theorem ml_X8_194 : Cond.methodLink RX8 194 yX8_comeTo ∈ gTbl := gTbl_of (List.mem_of_getElem? (i := 1033) (by decide +kernel)) (by decide +kernel)
theorem ml_X8_176 : Cond.methodLink RX8 176 yX8_goOut ∈ gTbl := gTbl_of (List.mem_of_getElem? (i := 1037) (by decide +kernel)) (by decide +kernel)
theorem ml_L_61 : Cond.methodLink RL 61 yX8_drop ∈ gTbl := gTbl_of (List.mem_of_getElem? (i := 1041) (by decide +kernel)) (by decide +kernel)
theorem ml_X8_220 : Cond.methodLink RX8 220 yX8_dropOn ∈ gTbl := gTbl_of (List.mem_of_getElem? (i := 1045) (by decide +kernel)) (by decide +kernel)
theorem ml_L_65 : Cond.methodLink RL 65 yX8_send ∈ gTbl := gTbl_of (List.mem_of_getElem? (i := 1049) (by decide +kernel)) (by decide +kernel)
theorem ml_L_69 : Cond.methodLink RL 69 yX8_threshold ∈ gTbl := gTbl_of (List.mem_of_getElem? (i := 1053) (by decide +kernel)) (by decide +kernel)
theorem ml_L_73 : Cond.methodLink RL 73 yX8_use ∈ gTbl := gTbl_of (List.mem_of_getElem? (i := 1057) (by decide +kernel)) (by decide +kernel)
theorem ml_X8_223 : Cond.methodLink RX8 223 yX8_useOn ∈ gTbl := gTbl_of (List.mem_of_getElem? (i := 1061) (by decide +kernel)) (by decide +kernel)
theorem ml_L_77 : Cond.methodLink RL 77 yX8_undo ∈ gTbl := gTbl_of (List.mem_of_getElem? (i := 1065) (by decide +kernel)) (by decide +kernel)
theorem ml_L_81 : Cond.methodLink RL 81 yX8_weight ∈ gTbl := gTbl_of (List.mem_of_getElem? (i := 1069) (by decide +kernel)) (by decide +kernel)
theorem ml_X8_226 : Cond.methodLink RX8 226 yX8_ones ∈ gTbl := gTbl_of (List.mem_of_getElem? (i := 1073) (by decide +kernel)) (by decide +kernel)
theorem ml_X8_229 : Cond.methodLink RX8 229 yJxf58ca_floatToIntBits_5c35a ∈ gTbl := gTbl_of (List.mem_of_getElem? (i := 1076) (by decide +kernel)) (by decide +kernel)
theorem ml_Jxf58ca_59 : Cond.methodLink RJxf58ca 59 yJxf58ca_isNaN_12338 ∈ gTbl := gTbl_of (List.mem_of_getElem? (i := 1079) (by decide +kernel)) (by decide +kernel)
theorem ml_Jxf58ca_74 : Cond.methodLink RJxf58ca 74 ⟨"java/lang/Float", "floatToRawIntBits", "(F)I"⟩ ∈ gTbl := gTbl_of (List.mem_of_getElem? (i := 1082) (by decide +kernel)) (by decide +kernel)
theorem nt_floatToRawIntBits : Cond.native ⟨"java/lang/Float", "floatToRawIntBits", "(F)I"⟩ ∈ gTbl := gTbl_of (List.mem_of_getElem? (i := 1084) (by decide +kernel)) (by decide +kernel)
theorem cn_Jxf58ca_77 : Cond.constant RJxf58ca 77 (2143289344) ∈ gTbl := gTbl_of (List.mem_of_getElem? (i := 1085) (by decide +kernel)) (by decide +kernel)
theorem ml_L_85 : Cond.methodLink RL 85 yX8_best ∈ gTbl := gTbl_of (List.mem_of_getElem? (i := 1086) (by decide +kernel)) (by decide +kernel)
theorem ml_X8_235 : Cond.methodLink RX8 235 yX8_madeBy ∈ gTbl := gTbl_of (List.mem_of_getElem? (i := 1090) (by decide +kernel)) (by decide +kernel)
theorem ml_L_89 : Cond.methodLink RL 89 yX8_plan ∈ gTbl := gTbl_of (List.mem_of_getElem? (i := 1094) (by decide +kernel)) (by decide +kernel)
theorem cn_X8_239 : Cond.constantLong RX8 239 (4) ∈ gTbl := gTbl_of (List.mem_of_getElem? (i := 1098) (by decide +kernel)) (by decide +kernel)
theorem ml_X8_241 : Cond.methodLink RX8 241 yX8_power ∈ gTbl := gTbl_of (List.mem_of_getElem? (i := 1099) (by decide +kernel)) (by decide +kernel)
theorem ml_X8_244 : Cond.methodLink RX8 244 yX8_layTrial ∈ gTbl := gTbl_of (List.mem_of_getElem? (i := 1102) (by decide +kernel)) (by decide +kernel)
theorem ml_X8_247 : Cond.methodLink RX8 247 yX8_costOf ∈ gTbl := gTbl_of (List.mem_of_getElem? (i := 1106) (by decide +kernel)) (by decide +kernel)
theorem ml_L_93 : Cond.methodLink RL 93 yX8_order ∈ gTbl := gTbl_of (List.mem_of_getElem? (i := 1109) (by decide +kernel)) (by decide +kernel)
theorem cn_X8_258 : Cond.constantLong RX8 258 (5) ∈ gTbl := gTbl_of (List.mem_of_getElem? (i := 1113) (by decide +kernel)) (by decide +kernel)
theorem ml_X8_260 : Cond.methodLink RX8 260 yX8_layBest ∈ gTbl := gTbl_of (List.mem_of_getElem? (i := 1114) (by decide +kernel)) (by decide +kernel)
theorem ml_X8_254 : Cond.methodLink RX8 254 yX8_layOrder ∈ gTbl := gTbl_of (List.mem_of_getElem? (i := 1118) (by decide +kernel)) (by decide +kernel)
theorem ml_L_100 : Cond.methodLink RL 100 yX8_judge ∈ gTbl := gTbl_of (List.mem_of_getElem? (i := 1122) (by decide +kernel)) (by decide +kernel)
theorem cn_X8_264 : Cond.constantLong RX8 264 (100000) ∈ gTbl := gTbl_of (List.mem_of_getElem? (i := 1126) (by decide +kernel)) (by decide +kernel)
theorem ml_X8_266 : Cond.methodLink RX8 266 yX8_longPower ∈ gTbl := gTbl_of (List.mem_of_getElem? (i := 1127) (by decide +kernel)) (by decide +kernel)
theorem ml_X8_270 : Cond.methodLink RX8 270 yX8_does ∈ gTbl := gTbl_of (List.mem_of_getElem? (i := 1130) (by decide +kernel)) (by decide +kernel)
theorem ml_L_104 : Cond.methodLink RL 104 yX8_see ∈ gTbl := gTbl_of (List.mem_of_getElem? (i := 1134) (by decide +kernel)) (by decide +kernel)
theorem cn_X8_273 : Cond.constantLong RX8 273 (2) ∈ gTbl := gTbl_of (List.mem_of_getElem? (i := 1138) (by decide +kernel)) (by decide +kernel)
theorem ml_L_108 : Cond.methodLink RL 108 yX8_unsee ∈ gTbl := gTbl_of (List.mem_of_getElem? (i := 1139) (by decide +kernel)) (by decide +kernel)
theorem ml_L_112 : Cond.methodLink RL 112 yX8_which ∈ gTbl := gTbl_of (List.mem_of_getElem? (i := 1143) (by decide +kernel)) (by decide +kernel)
theorem ml_X8_278 : Cond.methodLink RX8 278 yX8_isSo ∈ gTbl := gTbl_of (List.mem_of_getElem? (i := 1147) (by decide +kernel)) (by decide +kernel)
theorem ml_L_117 : Cond.methodLink RL 117 yX8_share ∈ gTbl := gTbl_of (List.mem_of_getElem? (i := 1151) (by decide +kernel)) (by decide +kernel)
theorem ml_X8_284 : Cond.methodLink RX8 284 yX8_factorial ∈ gTbl := gTbl_of (List.mem_of_getElem? (i := 1155) (by decide +kernel)) (by decide +kernel)
theorem ml_X8_287 : Cond.methodLink RX8 287 yX8_hadBy ∈ gTbl := gTbl_of (List.mem_of_getElem? (i := 1158) (by decide +kernel)) (by decide +kernel)
theorem ml_X8_290 : Cond.methodLink RX8 290 yX8_fraction ∈ gTbl := gTbl_of (List.mem_of_getElem? (i := 1162) (by decide +kernel)) (by decide +kernel)
theorem ml_X8_281 : Cond.methodLink RX8 281 yX8_divisor ∈ gTbl := gTbl_of (List.mem_of_getElem? (i := 1165) (by decide +kernel)) (by decide +kernel)
theorem ml_L_122 : Cond.methodLink RL 122 yX8_lost ∈ gTbl := gTbl_of (List.mem_of_getElem? (i := 1168) (by decide +kernel)) (by decide +kernel)
theorem cn_X8_294 : Cond.constantLong RX8 294 (10) ∈ gTbl := gTbl_of (List.mem_of_getElem? (i := 1172) (by decide +kernel)) (by decide +kernel)
theorem ml_X8_296 : Cond.methodLink RX8 296 yX8_isRight ∈ gTbl := gTbl_of (List.mem_of_getElem? (i := 1173) (by decide +kernel)) (by decide +kernel)
theorem ml_L_127 : Cond.methodLink RL 127 yX8_seed ∈ gTbl := gTbl_of (List.mem_of_getElem? (i := 1177) (by decide +kernel)) (by decide +kernel)
theorem ml_L_131 : Cond.methodLink RL 131 yX8_drawn ∈ gTbl := gTbl_of (List.mem_of_getElem? (i := 1181) (by decide +kernel)) (by decide +kernel)
theorem cn_X8_303 : Cond.constantLong RX8 303 (20) ∈ gTbl := gTbl_of (List.mem_of_getElem? (i := 1185) (by decide +kernel)) (by decide +kernel)
theorem cn_X8_305 : Cond.constantLong RX8 305 (6364136223846793005) ∈ gTbl := gTbl_of (List.mem_of_getElem? (i := 1186) (by decide +kernel)) (by decide +kernel)
theorem cn_X8_307 : Cond.constantLong RX8 307 (1442695040888963407) ∈ gTbl := gTbl_of (List.mem_of_getElem? (i := 1187) (by decide +kernel)) (by decide +kernel)
theorem ml_L_135 : Cond.methodLink RL 135 yX8_keep ∈ gTbl := gTbl_of (List.mem_of_getElem? (i := 1188) (by decide +kernel)) (by decide +kernel)
theorem ml_L_139 : Cond.methodLink RL 139 yX8_again ∈ gTbl := gTbl_of (List.mem_of_getElem? (i := 1192) (by decide +kernel)) (by decide +kernel)
theorem ml_L_143 : Cond.methodLink RL 143 yX8_count ∈ gTbl := gTbl_of (List.mem_of_getElem? (i := 1196) (by decide +kernel)) (by decide +kernel)
theorem ml_X8_309 : Cond.methodLink RX8 309 yX8_onShelves ∈ gTbl := gTbl_of (List.mem_of_getElem? (i := 1200) (by decide +kernel)) (by decide +kernel)
theorem cn_L_94 : Cond.constantLong RL 94 (4294967295) ∈ gTbl := gTbl_of (List.mem_of_getElem? (i := 1204) (by decide +kernel)) (by decide +kernel)
theorem in_L : Cond.initialized RL ∈ gTbl := gTbl_of (List.mem_of_getElem? (i := 55) (by decide +kernel)) (by decide +kernel)
theorem in_X7 : Cond.initialized RX7 ∈ gTbl := gTbl_of (List.mem_of_getElem? (i := 56) (by decide +kernel)) (by decide +kernel)
theorem in_X6 : Cond.initialized RX6 ∈ gTbl := gTbl_of (List.mem_of_getElem? (i := 57) (by decide +kernel)) (by decide +kernel)
theorem in_X1 : Cond.initialized RX1 ∈ gTbl := gTbl_of (List.mem_of_getElem? (i := 58) (by decide +kernel)) (by decide +kernel)
theorem in_X0 : Cond.initialized RX0 ∈ gTbl := gTbl_of (List.mem_of_getElem? (i := 59) (by decide +kernel)) (by decide +kernel)
theorem in_X4 : Cond.initialized RX4 ∈ gTbl := gTbl_of (List.mem_of_getElem? (i := 60) (by decide +kernel)) (by decide +kernel)
theorem in_X3 : Cond.initialized RX3 ∈ gTbl := gTbl_of (List.mem_of_getElem? (i := 61) (by decide +kernel)) (by decide +kernel)
theorem in_X5 : Cond.initialized RX5 ∈ gTbl := gTbl_of (List.mem_of_getElem? (i := 62) (by decide +kernel)) (by decide +kernel)
theorem in_X2 : Cond.initialized RX2 ∈ gTbl := gTbl_of (List.mem_of_getElem? (i := 63) (by decide +kernel)) (by decide +kernel)
theorem in_X8 : Cond.initialized RX8 ∈ gTbl := gTbl_of (List.mem_of_getElem? (i := 64) (by decide +kernel)) (by decide +kernel)
theorem in_J6 : Cond.initialized RJ6 ∈ gTbl := gTbl_of (List.mem_of_getElem? (i := 65) (by decide +kernel)) (by decide +kernel)
theorem in_J9 : Cond.initialized RJ9 ∈ gTbl := gTbl_of (List.mem_of_getElem? (i := 66) (by decide +kernel)) (by decide +kernel)
theorem in_Jxf58ca : Cond.initialized RJxf58ca ∈ gTbl := gTbl_of (List.mem_of_getElem? (i := 67) (by decide +kernel)) (by decide +kernel)
theorem wc_X0_init : Cond.code yX0_init cX0_init 1 none ∈ gTbl := gTbl_of (List.mem_of_getElem? (i := 92) (by decide +kernel)) (by decide +kernel)
theorem wi_X0_init : Cond.instanceMethod yX0_init ∈ gTbl := gTbl_of (List.mem_of_getElem? (i := 91) (by decide +kernel)) (by decide +kernel)
theorem wc_X0_take : Cond.code yX0_take cX0_take 2 none ∈ gTbl := gTbl_of (List.mem_of_getElem? (i := 464) (by decide +kernel)) (by decide +kernel)
theorem pk_X0_take : MPI yX0_take cX0_take 2 none 1 := ⟨gTbl_of (List.mem_of_getElem? (i := 462) (by decide +kernel)) (by decide +kernel), gTbl_of (List.mem_of_getElem? (i := 463) (by decide +kernel)) (by decide +kernel), in_X0, wc_X0_take, by decide +kernel, by decide +kernel, by decide +kernel⟩
theorem wc_X0_begin : Cond.code yX0_begin cX0_begin 3 none ∈ gTbl := gTbl_of (List.mem_of_getElem? (i := 273) (by decide +kernel)) (by decide +kernel)
theorem pk_X0_begin : MPI yX0_begin cX0_begin 3 none 2 := ⟨gTbl_of (List.mem_of_getElem? (i := 271) (by decide +kernel)) (by decide +kernel), gTbl_of (List.mem_of_getElem? (i := 272) (by decide +kernel)) (by decide +kernel), in_X0, wc_X0_begin, by decide +kernel, by decide +kernel, by decide +kernel⟩
theorem wc_X0_addFamily : Cond.code yX0_addFamily cX0_addFamily 3 none ∈ gTbl := gTbl_of (List.mem_of_getElem? (i := 285) (by decide +kernel)) (by decide +kernel)
theorem pk_X0_addFamily : MPI yX0_addFamily cX0_addFamily 3 none 2 := ⟨gTbl_of (List.mem_of_getElem? (i := 283) (by decide +kernel)) (by decide +kernel), gTbl_of (List.mem_of_getElem? (i := 284) (by decide +kernel)) (by decide +kernel), in_X0, wc_X0_addFamily, by decide +kernel, by decide +kernel, by decide +kernel⟩
theorem wc_X0_isFamily : Cond.code yX0_isFamily cX0_isFamily 2 (some .boolean) ∈ gTbl := gTbl_of (List.mem_of_getElem? (i := 293) (by decide +kernel)) (by decide +kernel)
theorem pk_X0_isFamily : MPI yX0_isFamily cX0_isFamily 2 (some .boolean) 1 := ⟨gTbl_of (List.mem_of_getElem? (i := 291) (by decide +kernel)) (by decide +kernel), gTbl_of (List.mem_of_getElem? (i := 292) (by decide +kernel)) (by decide +kernel), in_X0, wc_X0_isFamily, by decide +kernel, by decide +kernel, by decide +kernel⟩
theorem wc_X0_cell : Cond.code yX0_cell cX0_cell 4 (some .int) ∈ gTbl := gTbl_of (List.mem_of_getElem? (i := 317) (by decide +kernel)) (by decide +kernel)
theorem pk_X0_cell : MPI yX0_cell cX0_cell 4 (some .int) 3 := ⟨gTbl_of (List.mem_of_getElem? (i := 315) (by decide +kernel)) (by decide +kernel), gTbl_of (List.mem_of_getElem? (i := 316) (by decide +kernel)) (by decide +kernel), in_X0, wc_X0_cell, by decide +kernel, by decide +kernel, by decide +kernel⟩
theorem wc_X0_cellSet : Cond.code yX0_cellSet cX0_cellSet 5 (some .int) ∈ gTbl := gTbl_of (List.mem_of_getElem? (i := 633) (by decide +kernel)) (by decide +kernel)
theorem pk_X0_cellSet : MPI yX0_cellSet cX0_cellSet 5 (some .int) 2 := ⟨gTbl_of (List.mem_of_getElem? (i := 631) (by decide +kernel)) (by decide +kernel), gTbl_of (List.mem_of_getElem? (i := 632) (by decide +kernel)) (by decide +kernel), in_X0, wc_X0_cellSet, by decide +kernel, by decide +kernel, by decide +kernel⟩
theorem wc_X0_contains : Cond.code yX0_contains cX0_contains 5 (some .boolean) ∈ gTbl := gTbl_of (List.mem_of_getElem? (i := 493) (by decide +kernel)) (by decide +kernel)
theorem pk_X0_contains : MPI yX0_contains cX0_contains 5 (some .boolean) 3 := ⟨gTbl_of (List.mem_of_getElem? (i := 491) (by decide +kernel)) (by decide +kernel), gTbl_of (List.mem_of_getElem? (i := 492) (by decide +kernel)) (by decide +kernel), in_X0, wc_X0_contains, by decide +kernel, by decide +kernel, by decide +kernel⟩
theorem wc_X0_pagesIn : Cond.code yX0_pagesIn cX0_pagesIn 5 (some .int) ∈ gTbl := gTbl_of (List.mem_of_getElem? (i := 489) (by decide +kernel)) (by decide +kernel)
theorem pk_X0_pagesIn : MPI yX0_pagesIn cX0_pagesIn 5 (some .int) 2 := ⟨gTbl_of (List.mem_of_getElem? (i := 487) (by decide +kernel)) (by decide +kernel), gTbl_of (List.mem_of_getElem? (i := 488) (by decide +kernel)) (by decide +kernel), in_X0, wc_X0_pagesIn, by decide +kernel, by decide +kernel, by decide +kernel⟩
theorem wc_X1_init : Cond.code yX1_init cX1_init 2 none ∈ gTbl := gTbl_of (List.mem_of_getElem? (i := 86) (by decide +kernel)) (by decide +kernel)
theorem wi_X1_init : Cond.instanceMethod yX1_init ∈ gTbl := gTbl_of (List.mem_of_getElem? (i := 85) (by decide +kernel)) (by decide +kernel)
theorem wc_X1_take : Cond.code yX1_take cX1_take 3 none ∈ gTbl := gTbl_of (List.mem_of_getElem? (i := 460) (by decide +kernel)) (by decide +kernel)
theorem pk_X1_take : MPI yX1_take cX1_take 3 none 1 := ⟨gTbl_of (List.mem_of_getElem? (i := 458) (by decide +kernel)) (by decide +kernel), gTbl_of (List.mem_of_getElem? (i := 459) (by decide +kernel)) (by decide +kernel), in_X1, wc_X1_take, by decide +kernel, by decide +kernel, by decide +kernel⟩
theorem wc_X1_begin : Cond.code yX1_begin cX1_begin 3 none ∈ gTbl := gTbl_of (List.mem_of_getElem? (i := 269) (by decide +kernel)) (by decide +kernel)
theorem pk_X1_begin : MPI yX1_begin cX1_begin 3 none 2 := ⟨gTbl_of (List.mem_of_getElem? (i := 267) (by decide +kernel)) (by decide +kernel), gTbl_of (List.mem_of_getElem? (i := 268) (by decide +kernel)) (by decide +kernel), in_X1, wc_X1_begin, by decide +kernel, by decide +kernel, by decide +kernel⟩
theorem wc_X1_clearCounts : Cond.code yX1_clearCounts cX1_clearCounts 1 none ∈ gTbl := gTbl_of (List.mem_of_getElem? (i := 277) (by decide +kernel)) (by decide +kernel)
theorem pk_X1_clearCounts : MPI yX1_clearCounts cX1_clearCounts 1 none 0 := ⟨gTbl_of (List.mem_of_getElem? (i := 276) (by decide +kernel)) (by decide +kernel), gTbl_of (List.mem_of_getElem? (i := 0) (by decide +kernel)) (by decide +kernel), in_X1, wc_X1_clearCounts, by decide +kernel, by decide +kernel, by decide +kernel⟩
theorem wc_X1_addProxy : Cond.code yX1_addProxy cX1_addProxy 3 none ∈ gTbl := gTbl_of (List.mem_of_getElem? (i := 414) (by decide +kernel)) (by decide +kernel)
theorem pk_X1_addProxy : MPI yX1_addProxy cX1_addProxy 3 none 2 := ⟨gTbl_of (List.mem_of_getElem? (i := 412) (by decide +kernel)) (by decide +kernel), gTbl_of (List.mem_of_getElem? (i := 413) (by decide +kernel)) (by decide +kernel), in_X1, wc_X1_addProxy, by decide +kernel, by decide +kernel, by decide +kernel⟩
theorem wc_X1_complete : Cond.code yX1_complete cX1_complete 1 none ∈ gTbl := gTbl_of (List.mem_of_getElem? (i := 281) (by decide +kernel)) (by decide +kernel)
theorem pk_X1_complete : MPI yX1_complete cX1_complete 1 none 0 := ⟨gTbl_of (List.mem_of_getElem? (i := 279) (by decide +kernel)) (by decide +kernel), gTbl_of (List.mem_of_getElem? (i := 280) (by decide +kernel)) (by decide +kernel), in_X1, wc_X1_complete, by decide +kernel, by decide +kernel, by decide +kernel⟩
theorem wc_X1_proxyAt : Cond.code yX1_proxyAt cX1_proxyAt 2 (some (.object "ShelfFilters$Proxy")) ∈ gTbl := gTbl_of (List.mem_of_getElem? (i := 297) (by decide +kernel)) (by decide +kernel)
theorem pk_X1_proxyAt : MPI yX1_proxyAt cX1_proxyAt 2 (some (.object "ShelfFilters$Proxy")) 1 := ⟨gTbl_of (List.mem_of_getElem? (i := 295) (by decide +kernel)) (by decide +kernel), gTbl_of (List.mem_of_getElem? (i := 296) (by decide +kernel)) (by decide +kernel), in_X1, wc_X1_proxyAt, by decide +kernel, by decide +kernel, by decide +kernel⟩
theorem wc_X1_anyRoom : Cond.code yX1_anyRoom cX1_anyRoom 3 (some .boolean) ∈ gTbl := gTbl_of (List.mem_of_getElem? (i := 423) (by decide +kernel)) (by decide +kernel)
theorem pk_X1_anyRoom : MPI yX1_anyRoom cX1_anyRoom 3 (some .boolean) 0 := ⟨gTbl_of (List.mem_of_getElem? (i := 421) (by decide +kernel)) (by decide +kernel), gTbl_of (List.mem_of_getElem? (i := 422) (by decide +kernel)) (by decide +kernel), in_X1, wc_X1_anyRoom, by decide +kernel, by decide +kernel, by decide +kernel⟩
theorem wc_X1_cost : Cond.code yX1_cost cX1_cost 1 (some .int) ∈ gTbl := gTbl_of (List.mem_of_getElem? (i := 648) (by decide +kernel)) (by decide +kernel)
theorem pk_X1_cost : MPI yX1_cost cX1_cost 1 (some .int) 0 := ⟨gTbl_of (List.mem_of_getElem? (i := 646) (by decide +kernel)) (by decide +kernel), gTbl_of (List.mem_of_getElem? (i := 647) (by decide +kernel)) (by decide +kernel), in_X1, wc_X1_cost, by decide +kernel, by decide +kernel, by decide +kernel⟩
theorem wc_X1_allPages : Cond.code yX1_allPages cX1_allPages 4 (some .int) ∈ gTbl := gTbl_of (List.mem_of_getElem? (i := 771) (by decide +kernel)) (by decide +kernel)
theorem pk_X1_allPages : MPI yX1_allPages cX1_allPages 4 (some .int) 0 := ⟨gTbl_of (List.mem_of_getElem? (i := 769) (by decide +kernel)) (by decide +kernel), gTbl_of (List.mem_of_getElem? (i := 770) (by decide +kernel)) (by decide +kernel), in_X1, wc_X1_allPages, by decide +kernel, by decide +kernel, by decide +kernel⟩
theorem wc_X1_holders : Cond.code yX1_holders cX1_holders 5 (some .int) ∈ gTbl := gTbl_of (List.mem_of_getElem? (i := 724) (by decide +kernel)) (by decide +kernel)
theorem pk_X1_holders : MPI yX1_holders cX1_holders 5 (some .int) 1 := ⟨gTbl_of (List.mem_of_getElem? (i := 722) (by decide +kernel)) (by decide +kernel), gTbl_of (List.mem_of_getElem? (i := 723) (by decide +kernel)) (by decide +kernel), in_X1, wc_X1_holders, by decide +kernel, by decide +kernel, by decide +kernel⟩
theorem wc_X1_isSo : Cond.code yX1_isSo cX1_isSo 5 (some .boolean) ∈ gTbl := gTbl_of (List.mem_of_getElem? (i := 528) (by decide +kernel)) (by decide +kernel)
theorem pk_X1_isSo : MPI yX1_isSo cX1_isSo 5 (some .boolean) 3 := ⟨gTbl_of (List.mem_of_getElem? (i := 526) (by decide +kernel)) (by decide +kernel), gTbl_of (List.mem_of_getElem? (i := 527) (by decide +kernel)) (by decide +kernel), in_X1, wc_X1_isSo, by decide +kernel, by decide +kernel, by decide +kernel⟩
theorem wc_X1_claimed : Cond.code yX1_claimed cX1_claimed 2 (some .int) ∈ gTbl := gTbl_of (List.mem_of_getElem? (i := 485) (by decide +kernel)) (by decide +kernel)
theorem pk_X1_claimed : MPI yX1_claimed cX1_claimed 2 (some .int) 1 := ⟨gTbl_of (List.mem_of_getElem? (i := 483) (by decide +kernel)) (by decide +kernel), gTbl_of (List.mem_of_getElem? (i := 484) (by decide +kernel)) (by decide +kernel), in_X1, wc_X1_claimed, by decide +kernel, by decide +kernel, by decide +kernel⟩
theorem wc_X1_wrongPages : Cond.code yX1_wrongPages cX1_wrongPages 5 (some .int) ∈ gTbl := gTbl_of (List.mem_of_getElem? (i := 629) (by decide +kernel)) (by decide +kernel)
theorem pk_X1_wrongPages : MPI yX1_wrongPages cX1_wrongPages 5 (some .int) 2 := ⟨gTbl_of (List.mem_of_getElem? (i := 627) (by decide +kernel)) (by decide +kernel), gTbl_of (List.mem_of_getElem? (i := 628) (by decide +kernel)) (by decide +kernel), in_X1, wc_X1_wrongPages, by decide +kernel, by decide +kernel, by decide +kernel⟩
theorem wc_X1_request : Cond.code yX1_request cX1_request 5 (some .int) ∈ gTbl := gTbl_of (List.mem_of_getElem? (i := 549) (by decide +kernel)) (by decide +kernel)
theorem pk_X1_request : MPI yX1_request cX1_request 5 (some .int) 2 := ⟨gTbl_of (List.mem_of_getElem? (i := 547) (by decide +kernel)) (by decide +kernel), gTbl_of (List.mem_of_getElem? (i := 548) (by decide +kernel)) (by decide +kernel), in_X1, wc_X1_request, by decide +kernel, by decide +kernel, by decide +kernel⟩
theorem wc_X1_searchOthers : Cond.code yX1_searchOthers cX1_searchOthers 5 (some .int) ∈ gTbl := gTbl_of (List.mem_of_getElem? (i := 565) (by decide +kernel)) (by decide +kernel)
theorem pk_X1_searchOthers : MPI yX1_searchOthers cX1_searchOthers 5 (some .int) 2 := ⟨gTbl_of (List.mem_of_getElem? (i := 564) (by decide +kernel)) (by decide +kernel), gTbl_of (List.mem_of_getElem? (i := 11) (by decide +kernel)) (by decide +kernel), in_X1, wc_X1_searchOthers, by decide +kernel, by decide +kernel, by decide +kernel⟩
theorem wc_X1_addPage : Cond.code yX1_addPage cX1_addPage 3 none ∈ gTbl := gTbl_of (List.mem_of_getElem? (i := 575) (by decide +kernel)) (by decide +kernel)
theorem pk_X1_addPage : MPI yX1_addPage cX1_addPage 3 none 2 := ⟨gTbl_of (List.mem_of_getElem? (i := 574) (by decide +kernel)) (by decide +kernel), gTbl_of (List.mem_of_getElem? (i := 13) (by decide +kernel)) (by decide +kernel), in_X1, wc_X1_addPage, by decide +kernel, by decide +kernel, by decide +kernel⟩
theorem wc_X1_removePage : Cond.code yX1_removePage cX1_removePage 3 none ∈ gTbl := gTbl_of (List.mem_of_getElem? (i := 569) (by decide +kernel)) (by decide +kernel)
theorem pk_X1_removePage : MPI yX1_removePage cX1_removePage 3 none 2 := ⟨gTbl_of (List.mem_of_getElem? (i := 568) (by decide +kernel)) (by decide +kernel), gTbl_of (List.mem_of_getElem? (i := 12) (by decide +kernel)) (by decide +kernel), in_X1, wc_X1_removePage, by decide +kernel, by decide +kernel, by decide +kernel⟩
theorem wc_X1_tally : Cond.code yX1_tally cX1_tally 5 none ∈ gTbl := gTbl_of (List.mem_of_getElem? (i := 313) (by decide +kernel)) (by decide +kernel)
theorem pk_X1_tally : MPI yX1_tally cX1_tally 5 none 3 := ⟨gTbl_of (List.mem_of_getElem? (i := 312) (by decide +kernel)) (by decide +kernel), gTbl_of (List.mem_of_getElem? (i := 2) (by decide +kernel)) (by decide +kernel), in_X1, wc_X1_tally, by decide +kernel, by decide +kernel, by decide +kernel⟩
theorem wc_X1_discard : Cond.code yX1_discard cX1_discard 3 (some .boolean) ∈ gTbl := gTbl_of (List.mem_of_getElem? (i := 589) (by decide +kernel)) (by decide +kernel)
theorem pk_X1_discard : MPI yX1_discard cX1_discard 3 (some .boolean) 2 := ⟨gTbl_of (List.mem_of_getElem? (i := 587) (by decide +kernel)) (by decide +kernel), gTbl_of (List.mem_of_getElem? (i := 588) (by decide +kernel)) (by decide +kernel), in_X1, wc_X1_discard, by decide +kernel, by decide +kernel, by decide +kernel⟩
theorem wc_X1_spread : Cond.code yX1_spread cX1_spread 2 (some .boolean) ∈ gTbl := gTbl_of (List.mem_of_getElem? (i := 325) (by decide +kernel)) (by decide +kernel)
theorem pk_X1_spread : MPI yX1_spread cX1_spread 2 (some .boolean) 1 := ⟨gTbl_of (List.mem_of_getElem? (i := 323) (by decide +kernel)) (by decide +kernel), gTbl_of (List.mem_of_getElem? (i := 324) (by decide +kernel)) (by decide +kernel), in_X1, wc_X1_spread, by decide +kernel, by decide +kernel, by decide +kernel⟩
theorem wc_X1_spreadDue : Cond.code yX1_spreadDue cX1_spreadDue 3 none ∈ gTbl := gTbl_of (List.mem_of_getElem? (i := 580) (by decide +kernel)) (by decide +kernel)
theorem pk_X1_spreadDue : MPI yX1_spreadDue cX1_spreadDue 3 none 0 := ⟨gTbl_of (List.mem_of_getElem? (i := 578) (by decide +kernel)) (by decide +kernel), gTbl_of (List.mem_of_getElem? (i := 579) (by decide +kernel)) (by decide +kernel), in_X1, wc_X1_spreadDue, by decide +kernel, by decide +kernel, by decide +kernel⟩
theorem wc_X1_adopt : Cond.code yX1_adopt cX1_adopt 4 (some .boolean) ∈ gTbl := gTbl_of (List.mem_of_getElem? (i := 289) (by decide +kernel)) (by decide +kernel)
theorem pk_X1_adopt : MPI yX1_adopt cX1_adopt 4 (some .boolean) 1 := ⟨gTbl_of (List.mem_of_getElem? (i := 287) (by decide +kernel)) (by decide +kernel), gTbl_of (List.mem_of_getElem? (i := 288) (by decide +kernel)) (by decide +kernel), in_X1, wc_X1_adopt, by decide +kernel, by decide +kernel, by decide +kernel⟩
theorem wc_X1_rebuild : Cond.code yX1_rebuild cX1_rebuild 3 none ∈ gTbl := gTbl_of (List.mem_of_getElem? (i := 301) (by decide +kernel)) (by decide +kernel)
theorem pk_X1_rebuild : MPI yX1_rebuild cX1_rebuild 3 none 1 := ⟨gTbl_of (List.mem_of_getElem? (i := 300) (by decide +kernel)) (by decide +kernel), gTbl_of (List.mem_of_getElem? (i := 1) (by decide +kernel)) (by decide +kernel), in_X1, wc_X1_rebuild, by decide +kernel, by decide +kernel, by decide +kernel⟩
theorem wc_X1_servesWell : Cond.code yX1_servesWell cX1_servesWell 7 (some .boolean) ∈ gTbl := gTbl_of (List.mem_of_getElem? (i := 738) (by decide +kernel)) (by decide +kernel)
theorem pk_X1_servesWell : MPI yX1_servesWell cX1_servesWell 7 (some .boolean) 3 := ⟨gTbl_of (List.mem_of_getElem? (i := 736) (by decide +kernel)) (by decide +kernel), gTbl_of (List.mem_of_getElem? (i := 737) (by decide +kernel)) (by decide +kernel), in_X1, wc_X1_servesWell, by decide +kernel, by decide +kernel, by decide +kernel⟩
theorem wc_X2_init : Cond.code yX2_init cX2_init 1 none ∈ gTbl := gTbl_of (List.mem_of_getElem? (i := 256) (by decide +kernel)) (by decide +kernel)
theorem wi_X2_init : Cond.instanceMethod yX2_init ∈ gTbl := gTbl_of (List.mem_of_getElem? (i := 255) (by decide +kernel)) (by decide +kernel)
theorem wc_X2_take : Cond.code yX2_take cX2_take 2 none ∈ gTbl := gTbl_of (List.mem_of_getElem? (i := 672) (by decide +kernel)) (by decide +kernel)
theorem pk_X2_take : MPI yX2_take cX2_take 2 none 1 := ⟨gTbl_of (List.mem_of_getElem? (i := 670) (by decide +kernel)) (by decide +kernel), gTbl_of (List.mem_of_getElem? (i := 671) (by decide +kernel)) (by decide +kernel), in_X2, wc_X2_take, by decide +kernel, by decide +kernel, by decide +kernel⟩
theorem wc_X2_pageAt : Cond.code yX2_pageAt cX2_pageAt 2 (some .int) ∈ gTbl := gTbl_of (List.mem_of_getElem? (i := 668) (by decide +kernel)) (by decide +kernel)
theorem pk_X2_pageAt : MPI yX2_pageAt cX2_pageAt 2 (some .int) 1 := ⟨gTbl_of (List.mem_of_getElem? (i := 666) (by decide +kernel)) (by decide +kernel), gTbl_of (List.mem_of_getElem? (i := 667) (by decide +kernel)) (by decide +kernel), in_X2, wc_X2_pageAt, by decide +kernel, by decide +kernel, by decide +kernel⟩
theorem wc_X2_begin : Cond.code yX2_begin cX2_begin 3 none ∈ gTbl := gTbl_of (List.mem_of_getElem? (i := 660) (by decide +kernel)) (by decide +kernel)
theorem pk_X2_begin : MPI yX2_begin cX2_begin 3 none 1 := ⟨gTbl_of (List.mem_of_getElem? (i := 658) (by decide +kernel)) (by decide +kernel), gTbl_of (List.mem_of_getElem? (i := 659) (by decide +kernel)) (by decide +kernel), in_X2, wc_X2_begin, by decide +kernel, by decide +kernel, by decide +kernel⟩
theorem wc_X2_advance : Cond.code yX2_advance cX2_advance 5 (some .boolean) ∈ gTbl := gTbl_of (List.mem_of_getElem? (i := 677) (by decide +kernel)) (by decide +kernel)
theorem pk_X2_advance : MPI yX2_advance cX2_advance 5 (some .boolean) 0 := ⟨gTbl_of (List.mem_of_getElem? (i := 675) (by decide +kernel)) (by decide +kernel), gTbl_of (List.mem_of_getElem? (i := 676) (by decide +kernel)) (by decide +kernel), in_X2, wc_X2_advance, by decide +kernel, by decide +kernel, by decide +kernel⟩
theorem wc_X2_swap : Cond.code yX2_swap cX2_swap 4 none ∈ gTbl := gTbl_of (List.mem_of_getElem? (i := 682) (by decide +kernel)) (by decide +kernel)
theorem pk_X2_swap : MPI yX2_swap cX2_swap 4 none 2 := ⟨gTbl_of (List.mem_of_getElem? (i := 681) (by decide +kernel)) (by decide +kernel), gTbl_of (List.mem_of_getElem? (i := 16) (by decide +kernel)) (by decide +kernel), in_X2, wc_X2_swap, by decide +kernel, by decide +kernel, by decide +kernel⟩
theorem wc_X3_init : Cond.code yX3_init cX3_init 2 none ∈ gTbl := gTbl_of (List.mem_of_getElem? (i := 215) (by decide +kernel)) (by decide +kernel)
theorem wi_X3_init : Cond.instanceMethod yX3_init ∈ gTbl := gTbl_of (List.mem_of_getElem? (i := 214) (by decide +kernel)) (by decide +kernel)
theorem wc_X3_forget : Cond.code yX3_forget cX3_forget 1 none ∈ gTbl := gTbl_of (List.mem_of_getElem? (i := 476) (by decide +kernel)) (by decide +kernel)
theorem pk_X3_forget : MPI yX3_forget cX3_forget 1 none 0 := ⟨gTbl_of (List.mem_of_getElem? (i := 474) (by decide +kernel)) (by decide +kernel), gTbl_of (List.mem_of_getElem? (i := 475) (by decide +kernel)) (by decide +kernel), in_X3, wc_X3_forget, by decide +kernel, by decide +kernel, by decide +kernel⟩
theorem wc_X3_record : Cond.code yX3_record cX3_record 3 none ∈ gTbl := gTbl_of (List.mem_of_getElem? (i := 538) (by decide +kernel)) (by decide +kernel)
theorem pk_X3_record : MPI yX3_record cX3_record 3 none 1 := ⟨gTbl_of (List.mem_of_getElem? (i := 536) (by decide +kernel)) (by decide +kernel), gTbl_of (List.mem_of_getElem? (i := 537) (by decide +kernel)) (by decide +kernel), in_X3, wc_X3_record, by decide +kernel, by decide +kernel, by decide +kernel⟩
theorem wc_X3_restore : Cond.code yX3_restore cX3_restore 4 (some .boolean) ∈ gTbl := gTbl_of (List.mem_of_getElem? (i := 612) (by decide +kernel)) (by decide +kernel)
theorem pk_X3_restore : MPI yX3_restore cX3_restore 4 (some .boolean) 1 := ⟨gTbl_of (List.mem_of_getElem? (i := 610) (by decide +kernel)) (by decide +kernel), gTbl_of (List.mem_of_getElem? (i := 611) (by decide +kernel)) (by decide +kernel), in_X3, wc_X3_restore, by decide +kernel, by decide +kernel, by decide +kernel⟩
theorem wc_X4_init : Cond.code yX4_init cX4_init 1 none ∈ gTbl := gTbl_of (List.mem_of_getElem? (i := 127) (by decide +kernel)) (by decide +kernel)
theorem wi_X4_init : Cond.instanceMethod yX4_init ∈ gTbl := gTbl_of (List.mem_of_getElem? (i := 126) (by decide +kernel)) (by decide +kernel)
theorem wc_X4_take : Cond.code yX4_take cX4_take 2 none ∈ gTbl := gTbl_of (List.mem_of_getElem? (i := 471) (by decide +kernel)) (by decide +kernel)
theorem pk_X4_take : MPI yX4_take cX4_take 2 none 1 := ⟨gTbl_of (List.mem_of_getElem? (i := 469) (by decide +kernel)) (by decide +kernel), gTbl_of (List.mem_of_getElem? (i := 470) (by decide +kernel)) (by decide +kernel), in_X4, wc_X4_take, by decide +kernel, by decide +kernel, by decide +kernel⟩
theorem wc_X4_begin : Cond.code yX4_begin cX4_begin 3 none ∈ gTbl := gTbl_of (List.mem_of_getElem? (i := 418) (by decide +kernel)) (by decide +kernel)
theorem pk_X4_begin : MPI yX4_begin cX4_begin 3 none 2 := ⟨gTbl_of (List.mem_of_getElem? (i := 416) (by decide +kernel)) (by decide +kernel), gTbl_of (List.mem_of_getElem? (i := 417) (by decide +kernel)) (by decide +kernel), in_X4, wc_X4_begin, by decide +kernel, by decide +kernel, by decide +kernel⟩
theorem wc_X4_clearCounters : Cond.code yX4_clearCounters cX4_clearCounters 2 none ∈ gTbl := gTbl_of (List.mem_of_getElem? (i := 305) (by decide +kernel)) (by decide +kernel)
theorem pk_X4_clearCounters : MPI yX4_clearCounters cX4_clearCounters 2 none 0 := ⟨gTbl_of (List.mem_of_getElem? (i := 303) (by decide +kernel)) (by decide +kernel), gTbl_of (List.mem_of_getElem? (i := 304) (by decide +kernel)) (by decide +kernel), in_X4, wc_X4_clearCounters, by decide +kernel, by decide +kernel, by decide +kernel⟩
theorem wc_X4_hasRoom : Cond.code yX4_hasRoom cX4_hasRoom 1 (some .boolean) ∈ gTbl := gTbl_of (List.mem_of_getElem? (i := 427) (by decide +kernel)) (by decide +kernel)
theorem pk_X4_hasRoom : MPI yX4_hasRoom cX4_hasRoom 1 (some .boolean) 0 := ⟨gTbl_of (List.mem_of_getElem? (i := 425) (by decide +kernel)) (by decide +kernel), gTbl_of (List.mem_of_getElem? (i := 426) (by decide +kernel)) (by decide +kernel), in_X4, wc_X4_hasRoom, by decide +kernel, by decide +kernel, by decide +kernel⟩
theorem wc_X4_pageAt : Cond.code yX4_pageAt cX4_pageAt 2 (some .int) ∈ gTbl := gTbl_of (List.mem_of_getElem? (i := 309) (by decide +kernel)) (by decide +kernel)
theorem pk_X4_pageAt : MPI yX4_pageAt cX4_pageAt 2 (some .int) 1 := ⟨gTbl_of (List.mem_of_getElem? (i := 307) (by decide +kernel)) (by decide +kernel), gTbl_of (List.mem_of_getElem? (i := 308) (by decide +kernel)) (by decide +kernel), in_X4, wc_X4_pageAt, by decide +kernel, by decide +kernel, by decide +kernel⟩
theorem wc_X4_placeOf : Cond.code yX4_placeOf cX4_placeOf 3 (some .int) ∈ gTbl := gTbl_of (List.mem_of_getElem? (i := 447) (by decide +kernel)) (by decide +kernel)
theorem pk_X4_placeOf : MPI yX4_placeOf cX4_placeOf 3 (some .int) 1 := ⟨gTbl_of (List.mem_of_getElem? (i := 445) (by decide +kernel)) (by decide +kernel), gTbl_of (List.mem_of_getElem? (i := 446) (by decide +kernel)) (by decide +kernel), in_X4, wc_X4_placeOf, by decide +kernel, by decide +kernel, by decide +kernel⟩
theorem wc_X4_has : Cond.code yX4_has cX4_has 2 (some .boolean) ∈ gTbl := gTbl_of (List.mem_of_getElem? (i := 443) (by decide +kernel)) (by decide +kernel)
theorem pk_X4_has : MPI yX4_has cX4_has 2 (some .boolean) 1 := ⟨gTbl_of (List.mem_of_getElem? (i := 441) (by decide +kernel)) (by decide +kernel), gTbl_of (List.mem_of_getElem? (i := 442) (by decide +kernel)) (by decide +kernel), in_X4, wc_X4_has, by decide +kernel, by decide +kernel, by decide +kernel⟩
theorem wc_X4_shelfSet : Cond.code yX4_shelfSet cX4_shelfSet 3 (some .int) ∈ gTbl := gTbl_of (List.mem_of_getElem? (i := 498) (by decide +kernel)) (by decide +kernel)
theorem pk_X4_shelfSet : MPI yX4_shelfSet cX4_shelfSet 3 (some .int) 0 := ⟨gTbl_of (List.mem_of_getElem? (i := 496) (by decide +kernel)) (by decide +kernel), gTbl_of (List.mem_of_getElem? (i := 497) (by decide +kernel)) (by decide +kernel), in_X4, wc_X4_shelfSet, by decide +kernel, by decide +kernel, by decide +kernel⟩
theorem wc_X4_addOldest : Cond.code yX4_addOldest cX4_addOldest 2 none ∈ gTbl := gTbl_of (List.mem_of_getElem? (i := 451) (by decide +kernel)) (by decide +kernel)
theorem pk_X4_addOldest : MPI yX4_addOldest cX4_addOldest 2 none 1 := ⟨gTbl_of (List.mem_of_getElem? (i := 449) (by decide +kernel)) (by decide +kernel), gTbl_of (List.mem_of_getElem? (i := 450) (by decide +kernel)) (by decide +kernel), in_X4, wc_X4_addOldest, by decide +kernel, by decide +kernel, by decide +kernel⟩
theorem wc_X4_addNewest : Cond.code yX4_addNewest cX4_addNewest 3 none ∈ gTbl := gTbl_of (List.mem_of_getElem? (i := 561) (by decide +kernel)) (by decide +kernel)
theorem pk_X4_addNewest : MPI yX4_addNewest cX4_addNewest 3 none 1 := ⟨gTbl_of (List.mem_of_getElem? (i := 559) (by decide +kernel)) (by decide +kernel), gTbl_of (List.mem_of_getElem? (i := 560) (by decide +kernel)) (by decide +kernel), in_X4, wc_X4_addNewest, by decide +kernel, by decide +kernel, by decide +kernel⟩
theorem wc_X4_removeAt : Cond.code yX4_removeAt cX4_removeAt 3 none ∈ gTbl := gTbl_of (List.mem_of_getElem? (i := 557) (by decide +kernel)) (by decide +kernel)
theorem pk_X4_removeAt : MPI yX4_removeAt cX4_removeAt 3 none 1 := ⟨gTbl_of (List.mem_of_getElem? (i := 555) (by decide +kernel)) (by decide +kernel), gTbl_of (List.mem_of_getElem? (i := 556) (by decide +kernel)) (by decide +kernel), in_X4, wc_X4_removeAt, by decide +kernel, by decide +kernel, by decide +kernel⟩
theorem wc_X4_renew : Cond.code yX4_renew cX4_renew 2 none ∈ gTbl := gTbl_of (List.mem_of_getElem? (i := 553) (by decide +kernel)) (by decide +kernel)
theorem pk_X4_renew : MPI yX4_renew cX4_renew 2 none 1 := ⟨gTbl_of (List.mem_of_getElem? (i := 551) (by decide +kernel)) (by decide +kernel), gTbl_of (List.mem_of_getElem? (i := 552) (by decide +kernel)) (by decide +kernel), in_X4, wc_X4_renew, by decide +kernel, by decide +kernel, by decide +kernel⟩
theorem wc_X4_move : Cond.code yX4_move cX4_move 3 none ∈ gTbl := gTbl_of (List.mem_of_getElem? (i := 321) (by decide +kernel)) (by decide +kernel)
theorem pk_X4_move : MPI yX4_move cX4_move 3 none 2 := ⟨gTbl_of (List.mem_of_getElem? (i := 319) (by decide +kernel)) (by decide +kernel), gTbl_of (List.mem_of_getElem? (i := 320) (by decide +kernel)) (by decide +kernel), in_X4, wc_X4_move, by decide +kernel, by decide +kernel, by decide +kernel⟩
theorem wc_X4_filterSet : Cond.code yX4_filterSet cX4_filterSet 3 (some .int) ∈ gTbl := gTbl_of (List.mem_of_getElem? (i := 329) (by decide +kernel)) (by decide +kernel)
theorem pk_X4_filterSet : MPI yX4_filterSet cX4_filterSet 3 (some .int) 0 := ⟨gTbl_of (List.mem_of_getElem? (i := 327) (by decide +kernel)) (by decide +kernel), gTbl_of (List.mem_of_getElem? (i := 328) (by decide +kernel)) (by decide +kernel), in_X4, wc_X4_filterSet, by decide +kernel, by decide +kernel, by decide +kernel⟩
theorem wc_X5_init : Cond.code yX5_init cX5_init 1 none ∈ gTbl := gTbl_of (List.mem_of_getElem? (i := 235) (by decide +kernel)) (by decide +kernel)
theorem wi_X5_init : Cond.instanceMethod yX5_init ∈ gTbl := gTbl_of (List.mem_of_getElem? (i := 234) (by decide +kernel)) (by decide +kernel)
theorem wc_X5_add : Cond.code yX5_add cX5_add 4 (some .boolean) ∈ gTbl := gTbl_of (List.mem_of_getElem? (i := 698) (by decide +kernel)) (by decide +kernel)
theorem pk_X5_add : MPI yX5_add cX5_add 4 (some .boolean) 3 := ⟨gTbl_of (List.mem_of_getElem? (i := 696) (by decide +kernel)) (by decide +kernel), gTbl_of (List.mem_of_getElem? (i := 697) (by decide +kernel)) (by decide +kernel), in_X5, wc_X5_add, by decide +kernel, by decide +kernel, by decide +kernel⟩
theorem wc_X5_agreeing : Cond.code yX5_agreeing cX5_agreeing 4 (some .int) ∈ gTbl := gTbl_of (List.mem_of_getElem? (i := 710) (by decide +kernel)) (by decide +kernel)
theorem pk_X5_agreeing : MPI yX5_agreeing cX5_agreeing 4 (some .int) 1 := ⟨gTbl_of (List.mem_of_getElem? (i := 708) (by decide +kernel)) (by decide +kernel), gTbl_of (List.mem_of_getElem? (i := 709) (by decide +kernel)) (by decide +kernel), in_X5, wc_X5_agreeing, by decide +kernel, by decide +kernel, by decide +kernel⟩
theorem wc_X5_agrees : Cond.code yX5_agrees cX5_agrees 5 (some .boolean) ∈ gTbl := gTbl_of (List.mem_of_getElem? (i := 714) (by decide +kernel)) (by decide +kernel)
theorem pk_X5_agrees : MPI yX5_agrees cX5_agrees 5 (some .boolean) 2 := ⟨gTbl_of (List.mem_of_getElem? (i := 713) (by decide +kernel)) (by decide +kernel), gTbl_of (List.mem_of_getElem? (i := 17) (by decide +kernel)) (by decide +kernel), in_X5, wc_X5_agrees, by decide +kernel, by decide +kernel, by decide +kernel⟩
theorem wc_X6_init : Cond.code yX6_init cX6_init 1 none ∈ gTbl := gTbl_of (List.mem_of_getElem? (i := 80) (by decide +kernel)) (by decide +kernel)
theorem wi_X6_init : Cond.instanceMethod yX6_init ∈ gTbl := gTbl_of (List.mem_of_getElem? (i := 79) (by decide +kernel)) (by decide +kernel)
theorem wc_X6_append : Cond.code yX6_append cX6_append 2 (some .boolean) ∈ gTbl := gTbl_of (List.mem_of_getElem? (i := 368) (by decide +kernel)) (by decide +kernel)
theorem pk_X6_append : MPI yX6_append cX6_append 2 (some .boolean) 1 := ⟨gTbl_of (List.mem_of_getElem? (i := 366) (by decide +kernel)) (by decide +kernel), gTbl_of (List.mem_of_getElem? (i := 367) (by decide +kernel)) (by decide +kernel), in_X6, wc_X6_append, by decide +kernel, by decide +kernel, by decide +kernel⟩
theorem wc_X6_read : Cond.code yX6_read cX6_read 2 (some .int) ∈ gTbl := gTbl_of (List.mem_of_getElem? (i := 380) (by decide +kernel)) (by decide +kernel)
theorem pk_X6_read : MPI yX6_read cX6_read 2 (some .int) 0 := ⟨gTbl_of (List.mem_of_getElem? (i := 378) (by decide +kernel)) (by decide +kernel), gTbl_of (List.mem_of_getElem? (i := 379) (by decide +kernel)) (by decide +kernel), in_X6, wc_X6_read, by decide +kernel, by decide +kernel, by decide +kernel⟩
theorem wc_X6_letter : Cond.code yX6_letter cX6_letter 1 (some .int) ∈ gTbl := gTbl_of (List.mem_of_getElem? (i := 392) (by decide +kernel)) (by decide +kernel)
theorem pk_X6_letter : MPI yX6_letter cX6_letter 1 (some .int) 0 := ⟨gTbl_of (List.mem_of_getElem? (i := 391) (by decide +kernel)) (by decide +kernel), gTbl_of (List.mem_of_getElem? (i := 5) (by decide +kernel)) (by decide +kernel), in_X6, wc_X6_letter, by decide +kernel, by decide +kernel, by decide +kernel⟩
theorem wc_X6_pass : Cond.code yX6_pass cX6_pass 2 (some .boolean) ∈ gTbl := gTbl_of (List.mem_of_getElem? (i := 388) (by decide +kernel)) (by decide +kernel)
theorem pk_X6_pass : MPI yX6_pass cX6_pass 2 (some .boolean) 1 := ⟨gTbl_of (List.mem_of_getElem? (i := 387) (by decide +kernel)) (by decide +kernel), gTbl_of (List.mem_of_getElem? (i := 4) (by decide +kernel)) (by decide +kernel), in_X6, wc_X6_pass, by decide +kernel, by decide +kernel, by decide +kernel⟩
theorem wc_X6_passDigit : Cond.code yX6_passDigit cX6_passDigit 4 (some .boolean) ∈ gTbl := gTbl_of (List.mem_of_getElem? (i := 396) (by decide +kernel)) (by decide +kernel)
theorem pk_X6_passDigit : MPI yX6_passDigit cX6_passDigit 4 (some .boolean) 2 := ⟨gTbl_of (List.mem_of_getElem? (i := 395) (by decide +kernel)) (by decide +kernel), gTbl_of (List.mem_of_getElem? (i := 6) (by decide +kernel)) (by decide +kernel), in_X6, wc_X6_passDigit, by decide +kernel, by decide +kernel, by decide +kernel⟩
theorem wc_X6_readHead : Cond.code yX6_readHead cX6_readHead 3 (some .boolean) ∈ gTbl := gTbl_of (List.mem_of_getElem? (i := 384) (by decide +kernel)) (by decide +kernel)
theorem pk_X6_readHead : MPI yX6_readHead cX6_readHead 3 (some .boolean) 0 := ⟨gTbl_of (List.mem_of_getElem? (i := 383) (by decide +kernel)) (by decide +kernel), gTbl_of (List.mem_of_getElem? (i := 3) (by decide +kernel)) (by decide +kernel), in_X6, wc_X6_readHead, by decide +kernel, by decide +kernel, by decide +kernel⟩
theorem wc_X6_readPart : Cond.code yX6_readPart cX6_readPart 1 (some .boolean) ∈ gTbl := gTbl_of (List.mem_of_getElem? (i := 401) (by decide +kernel)) (by decide +kernel)
theorem pk_X6_readPart : MPI yX6_readPart cX6_readPart 1 (some .boolean) 0 := ⟨gTbl_of (List.mem_of_getElem? (i := 400) (by decide +kernel)) (by decide +kernel), gTbl_of (List.mem_of_getElem? (i := 7) (by decide +kernel)) (by decide +kernel), in_X6, wc_X6_readPart, by decide +kernel, by decide +kernel, by decide +kernel⟩
theorem wc_X6_readFamily : Cond.code yX6_readFamily cX6_readFamily 2 (some .boolean) ∈ gTbl := gTbl_of (List.mem_of_getElem? (i := 405) (by decide +kernel)) (by decide +kernel)
theorem pk_X6_readFamily : MPI yX6_readFamily cX6_readFamily 2 (some .boolean) 0 := ⟨gTbl_of (List.mem_of_getElem? (i := 404) (by decide +kernel)) (by decide +kernel), gTbl_of (List.mem_of_getElem? (i := 8) (by decide +kernel)) (by decide +kernel), in_X6, wc_X6_readFamily, by decide +kernel, by decide +kernel, by decide +kernel⟩
theorem wc_X6_readProxy : Cond.code yX6_readProxy cX6_readProxy 2 (some .boolean) ∈ gTbl := gTbl_of (List.mem_of_getElem? (i := 410) (by decide +kernel)) (by decide +kernel)
theorem pk_X6_readProxy : MPI yX6_readProxy cX6_readProxy 2 (some .boolean) 0 := ⟨gTbl_of (List.mem_of_getElem? (i := 409) (by decide +kernel)) (by decide +kernel), gTbl_of (List.mem_of_getElem? (i := 9) (by decide +kernel)) (by decide +kernel), in_X6, wc_X6_readProxy, by decide +kernel, by decide +kernel, by decide +kernel⟩
theorem wc_X6_readShelved : Cond.code yX6_readShelved cX6_readShelved 4 (some .boolean) ∈ gTbl := gTbl_of (List.mem_of_getElem? (i := 431) (by decide +kernel)) (by decide +kernel)
theorem pk_X6_readShelved : MPI yX6_readShelved cX6_readShelved 4 (some .boolean) 0 := ⟨gTbl_of (List.mem_of_getElem? (i := 430) (by decide +kernel)) (by decide +kernel), gTbl_of (List.mem_of_getElem? (i := 10) (by decide +kernel)) (by decide +kernel), in_X6, wc_X6_readShelved, by decide +kernel, by decide +kernel, by decide +kernel⟩
theorem wc_X6_mayBegin : Cond.code yX6_mayBegin cX6_mayBegin 3 (some .boolean) ∈ gTbl := gTbl_of (List.mem_of_getElem? (i := 436) (by decide +kernel)) (by decide +kernel)
theorem pk_X6_mayBegin : MPS yX6_mayBegin cX6_mayBegin 3 (some .boolean) 2 := ⟨gTbl_of (List.mem_of_getElem? (i := 435) (by decide +kernel)) (by decide +kernel), in_X6, wc_X6_mayBegin, by decide +kernel, by decide +kernel, by decide +kernel⟩
theorem wc_X7_init : Cond.code yX7_init cX7_init 2 none ∈ gTbl := gTbl_of (List.mem_of_getElem? (i := 72) (by decide +kernel)) (by decide +kernel)
theorem wi_X7_init : Cond.instanceMethod yX7_init ∈ gTbl := gTbl_of (List.mem_of_getElem? (i := 71) (by decide +kernel)) (by decide +kernel)
theorem wc_X7_write : Cond.code yX7_write cX7_write 2 (some .int) ∈ gTbl := gTbl_of (List.mem_of_getElem? (i := 364) (by decide +kernel)) (by decide +kernel)
theorem pk_X7_write : MPI yX7_write cX7_write 2 (some .int) 1 := ⟨gTbl_of (List.mem_of_getElem? (i := 362) (by decide +kernel)) (by decide +kernel), gTbl_of (List.mem_of_getElem? (i := 363) (by decide +kernel)) (by decide +kernel), in_X7, wc_X7_write, by decide +kernel, by decide +kernel, by decide +kernel⟩
theorem wc_X7_wipe : Cond.code yX7_wipe cX7_wipe 2 (some .int) ∈ gTbl := gTbl_of (List.mem_of_getElem? (i := 372) (by decide +kernel)) (by decide +kernel)
theorem pk_X7_wipe : MPI yX7_wipe cX7_wipe 2 (some .int) 0 := ⟨gTbl_of (List.mem_of_getElem? (i := 370) (by decide +kernel)) (by decide +kernel), gTbl_of (List.mem_of_getElem? (i := 371) (by decide +kernel)) (by decide +kernel), in_X7, wc_X7_wipe, by decide +kernel, by decide +kernel, by decide +kernel⟩
theorem wc_X7_fault : Cond.code yX7_fault cX7_fault 1 (some .int) ∈ gTbl := gTbl_of (List.mem_of_getElem? (i := 376) (by decide +kernel)) (by decide +kernel)
theorem pk_X7_fault : MPI yX7_fault cX7_fault 1 (some .int) 0 := ⟨gTbl_of (List.mem_of_getElem? (i := 374) (by decide +kernel)) (by decide +kernel), gTbl_of (List.mem_of_getElem? (i := 375) (by decide +kernel)) (by decide +kernel), in_X7, wc_X7_fault, by decide +kernel, by decide +kernel, by decide +kernel⟩
theorem wc_X7_net : Cond.code yX7_net cX7_net 2 (some .int) ∈ gTbl := gTbl_of (List.mem_of_getElem? (i := 456) (by decide +kernel)) (by decide +kernel)
theorem pk_X7_net : MPI yX7_net cX7_net 2 (some .int) 0 := ⟨gTbl_of (List.mem_of_getElem? (i := 454) (by decide +kernel)) (by decide +kernel), gTbl_of (List.mem_of_getElem? (i := 455) (by decide +kernel)) (by decide +kernel), in_X7, wc_X7_net, by decide +kernel, by decide +kernel, by decide +kernel⟩
theorem wc_X7_proxy : Cond.code yX7_proxy cX7_proxy 4 (some .int) ∈ gTbl := gTbl_of (List.mem_of_getElem? (i := 480) (by decide +kernel)) (by decide +kernel)
theorem pk_X7_proxy : MPI yX7_proxy cX7_proxy 4 (some .int) 2 := ⟨gTbl_of (List.mem_of_getElem? (i := 478) (by decide +kernel)) (by decide +kernel), gTbl_of (List.mem_of_getElem? (i := 479) (by decide +kernel)) (by decide +kernel), in_X7, wc_X7_proxy, by decide +kernel, by decide +kernel, by decide +kernel⟩
theorem wc_X7_page : Cond.code yX7_page cX7_page 4 (some .int) ∈ gTbl := gTbl_of (List.mem_of_getElem? (i := 508) (by decide +kernel)) (by decide +kernel)
theorem pk_X7_page : MPI yX7_page cX7_page 4 (some .int) 2 := ⟨gTbl_of (List.mem_of_getElem? (i := 506) (by decide +kernel)) (by decide +kernel), gTbl_of (List.mem_of_getElem? (i := 507) (by decide +kernel)) (by decide +kernel), in_X7, wc_X7_page, by decide +kernel, by decide +kernel, by decide +kernel⟩
theorem wc_X7_counter : Cond.code yX7_counter cX7_counter 4 (some .int) ∈ gTbl := gTbl_of (List.mem_of_getElem? (i := 513) (by decide +kernel)) (by decide +kernel)
theorem pk_X7_counter : MPI yX7_counter cX7_counter 4 (some .int) 2 := ⟨gTbl_of (List.mem_of_getElem? (i := 511) (by decide +kernel)) (by decide +kernel), gTbl_of (List.mem_of_getElem? (i := 512) (by decide +kernel)) (by decide +kernel), in_X7, wc_X7_counter, by decide +kernel, by decide +kernel, by decide +kernel⟩
theorem wc_X7_hash : Cond.code yX7_hash cX7_hash 4 (some .int) ∈ gTbl := gTbl_of (List.mem_of_getElem? (i := 517) (by decide +kernel)) (by decide +kernel)
theorem pk_X7_hash : MPI yX7_hash cX7_hash 4 (some .int) 3 := ⟨gTbl_of (List.mem_of_getElem? (i := 515) (by decide +kernel)) (by decide +kernel), gTbl_of (List.mem_of_getElem? (i := 516) (by decide +kernel)) (by decide +kernel), in_X7, wc_X7_hash, by decide +kernel, by decide +kernel, by decide +kernel⟩
theorem wc_X7_says : Cond.code yX7_says cX7_says 5 (some .int) ∈ gTbl := gTbl_of (List.mem_of_getElem? (i := 524) (by decide +kernel)) (by decide +kernel)
theorem pk_X7_says : MPI yX7_says cX7_says 5 (some .int) 3 := ⟨gTbl_of (List.mem_of_getElem? (i := 522) (by decide +kernel)) (by decide +kernel), gTbl_of (List.mem_of_getElem? (i := 523) (by decide +kernel)) (by decide +kernel), in_X7, wc_X7_says, by decide +kernel, by decide +kernel, by decide +kernel⟩
theorem wc_X7_ask : Cond.code yX7_ask cX7_ask 3 (some .int) ∈ gTbl := gTbl_of (List.mem_of_getElem? (i := 534) (by decide +kernel)) (by decide +kernel)
theorem pk_X7_ask : MPI yX7_ask cX7_ask 3 (some .int) 2 := ⟨gTbl_of (List.mem_of_getElem? (i := 532) (by decide +kernel)) (by decide +kernel), gTbl_of (List.mem_of_getElem? (i := 533) (by decide +kernel)) (by decide +kernel), in_X7, wc_X7_ask, by decide +kernel, by decide +kernel, by decide +kernel⟩
theorem wc_X7_drop : Cond.code yX7_drop cX7_drop 4 (some .int) ∈ gTbl := gTbl_of (List.mem_of_getElem? (i := 584) (by decide +kernel)) (by decide +kernel)
theorem pk_X7_drop : MPI yX7_drop cX7_drop 4 (some .int) 2 := ⟨gTbl_of (List.mem_of_getElem? (i := 582) (by decide +kernel)) (by decide +kernel), gTbl_of (List.mem_of_getElem? (i := 583) (by decide +kernel)) (by decide +kernel), in_X7, wc_X7_drop, by decide +kernel, by decide +kernel, by decide +kernel⟩
theorem wc_X7_send : Cond.code yX7_send cX7_send 3 (some .int) ∈ gTbl := gTbl_of (List.mem_of_getElem? (i := 593) (by decide +kernel)) (by decide +kernel)
theorem pk_X7_send : MPI yX7_send cX7_send 3 (some .int) 1 := ⟨gTbl_of (List.mem_of_getElem? (i := 591) (by decide +kernel)) (by decide +kernel), gTbl_of (List.mem_of_getElem? (i := 592) (by decide +kernel)) (by decide +kernel), in_X7, wc_X7_send, by decide +kernel, by decide +kernel, by decide +kernel⟩
theorem wc_X7_threshold : Cond.code yX7_threshold cX7_threshold 5 (some .int) ∈ gTbl := gTbl_of (List.mem_of_getElem? (i := 598) (by decide +kernel)) (by decide +kernel)
theorem pk_X7_threshold : MPI yX7_threshold cX7_threshold 5 (some .int) 2 := ⟨gTbl_of (List.mem_of_getElem? (i := 596) (by decide +kernel)) (by decide +kernel), gTbl_of (List.mem_of_getElem? (i := 597) (by decide +kernel)) (by decide +kernel), in_X7, wc_X7_threshold, by decide +kernel, by decide +kernel, by decide +kernel⟩
theorem wc_X7_use : Cond.code yX7_use cX7_use 3 (some .int) ∈ gTbl := gTbl_of (List.mem_of_getElem? (i := 603) (by decide +kernel)) (by decide +kernel)
theorem pk_X7_use : MPI yX7_use cX7_use 3 (some .int) 1 := ⟨gTbl_of (List.mem_of_getElem? (i := 601) (by decide +kernel)) (by decide +kernel), gTbl_of (List.mem_of_getElem? (i := 602) (by decide +kernel)) (by decide +kernel), in_X7, wc_X7_use, by decide +kernel, by decide +kernel, by decide +kernel⟩
theorem wc_X7_undo : Cond.code yX7_undo cX7_undo 1 (some .int) ∈ gTbl := gTbl_of (List.mem_of_getElem? (i := 608) (by decide +kernel)) (by decide +kernel)
theorem pk_X7_undo : MPI yX7_undo cX7_undo 1 (some .int) 0 := ⟨gTbl_of (List.mem_of_getElem? (i := 606) (by decide +kernel)) (by decide +kernel), gTbl_of (List.mem_of_getElem? (i := 607) (by decide +kernel)) (by decide +kernel), in_X7, wc_X7_undo, by decide +kernel, by decide +kernel, by decide +kernel⟩
theorem wc_X7_weight : Cond.code yX7_weight cX7_weight 6 (some .int) ∈ gTbl := gTbl_of (List.mem_of_getElem? (i := 616) (by decide +kernel)) (by decide +kernel)
theorem pk_X7_weight : MPI yX7_weight cX7_weight 6 (some .int) 1 := ⟨gTbl_of (List.mem_of_getElem? (i := 614) (by decide +kernel)) (by decide +kernel), gTbl_of (List.mem_of_getElem? (i := 615) (by decide +kernel)) (by decide +kernel), in_X7, wc_X7_weight, by decide +kernel, by decide +kernel, by decide +kernel⟩
theorem wc_X7_best : Cond.code yX7_best cX7_best 8 (some .int) ∈ gTbl := gTbl_of (List.mem_of_getElem? (i := 625) (by decide +kernel)) (by decide +kernel)
theorem pk_X7_best : MPI yX7_best cX7_best 8 (some .int) 2 := ⟨gTbl_of (List.mem_of_getElem? (i := 623) (by decide +kernel)) (by decide +kernel), gTbl_of (List.mem_of_getElem? (i := 624) (by decide +kernel)) (by decide +kernel), in_X7, wc_X7_best, by decide +kernel, by decide +kernel, by decide +kernel⟩
theorem wc_X7_plan : Cond.code yX7_plan cX7_plan 8 (some .int) ∈ gTbl := gTbl_of (List.mem_of_getElem? (i := 639) (by decide +kernel)) (by decide +kernel)
theorem pk_X7_plan : MPI yX7_plan cX7_plan 8 (some .int) 3 := ⟨gTbl_of (List.mem_of_getElem? (i := 637) (by decide +kernel)) (by decide +kernel), gTbl_of (List.mem_of_getElem? (i := 638) (by decide +kernel)) (by decide +kernel), in_X7, wc_X7_plan, by decide +kernel, by decide +kernel, by decide +kernel⟩
theorem wc_X7_order : Cond.code yX7_order cX7_order 6 (some .int) ∈ gTbl := gTbl_of (List.mem_of_getElem? (i := 652) (by decide +kernel)) (by decide +kernel)
theorem pk_X7_order : MPI yX7_order cX7_order 6 (some .int) 3 := ⟨gTbl_of (List.mem_of_getElem? (i := 650) (by decide +kernel)) (by decide +kernel), gTbl_of (List.mem_of_getElem? (i := 651) (by decide +kernel)) (by decide +kernel), in_X7, wc_X7_order, by decide +kernel, by decide +kernel, by decide +kernel⟩
theorem wc_X7_judge : Cond.code yX7_judge cX7_judge 7 (some .int) ∈ gTbl := gTbl_of (List.mem_of_getElem? (i := 686) (by decide +kernel)) (by decide +kernel)
theorem pk_X7_judge : MPI yX7_judge cX7_judge 7 (some .int) 2 := ⟨gTbl_of (List.mem_of_getElem? (i := 684) (by decide +kernel)) (by decide +kernel), gTbl_of (List.mem_of_getElem? (i := 685) (by decide +kernel)) (by decide +kernel), in_X7, wc_X7_judge, by decide +kernel, by decide +kernel, by decide +kernel⟩
theorem wc_X7_see : Cond.code yX7_see cX7_see 4 (some .int) ∈ gTbl := gTbl_of (List.mem_of_getElem? (i := 694) (by decide +kernel)) (by decide +kernel)
theorem pk_X7_see : MPI yX7_see cX7_see 4 (some .int) 3 := ⟨gTbl_of (List.mem_of_getElem? (i := 692) (by decide +kernel)) (by decide +kernel), gTbl_of (List.mem_of_getElem? (i := 693) (by decide +kernel)) (by decide +kernel), in_X7, wc_X7_see, by decide +kernel, by decide +kernel, by decide +kernel⟩
theorem wc_X7_unsee : Cond.code yX7_unsee cX7_unsee 2 (some .int) ∈ gTbl := gTbl_of (List.mem_of_getElem? (i := 702) (by decide +kernel)) (by decide +kernel)
theorem pk_X7_unsee : MPI yX7_unsee cX7_unsee 2 (some .int) 0 := ⟨gTbl_of (List.mem_of_getElem? (i := 700) (by decide +kernel)) (by decide +kernel), gTbl_of (List.mem_of_getElem? (i := 701) (by decide +kernel)) (by decide +kernel), in_X7, wc_X7_unsee, by decide +kernel, by decide +kernel, by decide +kernel⟩
theorem wc_X7_which : Cond.code yX7_which cX7_which 1 (some .int) ∈ gTbl := gTbl_of (List.mem_of_getElem? (i := 706) (by decide +kernel)) (by decide +kernel)
theorem pk_X7_which : MPI yX7_which cX7_which 1 (some .int) 0 := ⟨gTbl_of (List.mem_of_getElem? (i := 704) (by decide +kernel)) (by decide +kernel), gTbl_of (List.mem_of_getElem? (i := 705) (by decide +kernel)) (by decide +kernel), in_X7, wc_X7_which, by decide +kernel, by decide +kernel, by decide +kernel⟩
theorem wc_X7_share : Cond.code yX7_share cX7_share 7 (some .int) ∈ gTbl := gTbl_of (List.mem_of_getElem? (i := 720) (by decide +kernel)) (by decide +kernel)
theorem pk_X7_share : MPI yX7_share cX7_share 7 (some .int) 2 := ⟨gTbl_of (List.mem_of_getElem? (i := 718) (by decide +kernel)) (by decide +kernel), gTbl_of (List.mem_of_getElem? (i := 719) (by decide +kernel)) (by decide +kernel), in_X7, wc_X7_share, by decide +kernel, by decide +kernel, by decide +kernel⟩
theorem wc_X7_lost : Cond.code yX7_lost cX7_lost 9 (some .int) ∈ gTbl := gTbl_of (List.mem_of_getElem? (i := 734) (by decide +kernel)) (by decide +kernel)
theorem pk_X7_lost : MPI yX7_lost cX7_lost 9 (some .int) 4 := ⟨gTbl_of (List.mem_of_getElem? (i := 732) (by decide +kernel)) (by decide +kernel), gTbl_of (List.mem_of_getElem? (i := 733) (by decide +kernel)) (by decide +kernel), in_X7, wc_X7_lost, by decide +kernel, by decide +kernel, by decide +kernel⟩
theorem wc_X7_seed : Cond.code yX7_seed cX7_seed 5 (some .long) ∈ gTbl := gTbl_of (List.mem_of_getElem? (i := 748) (by decide +kernel)) (by decide +kernel)
theorem pk_X7_seed : MPI yX7_seed cX7_seed 5 (some .long) 1 := ⟨gTbl_of (List.mem_of_getElem? (i := 746) (by decide +kernel)) (by decide +kernel), gTbl_of (List.mem_of_getElem? (i := 747) (by decide +kernel)) (by decide +kernel), in_X7, wc_X7_seed, by decide +kernel, by decide +kernel, by decide +kernel⟩
theorem wc_X7_drawn : Cond.code yX7_drawn cX7_drawn 4 (some .int) ∈ gTbl := gTbl_of (List.mem_of_getElem? (i := 752) (by decide +kernel)) (by decide +kernel)
theorem pk_X7_drawn : MPI yX7_drawn cX7_drawn 4 (some .int) 1 := ⟨gTbl_of (List.mem_of_getElem? (i := 750) (by decide +kernel)) (by decide +kernel), gTbl_of (List.mem_of_getElem? (i := 751) (by decide +kernel)) (by decide +kernel), in_X7, wc_X7_drawn, by decide +kernel, by decide +kernel, by decide +kernel⟩
theorem wc_X7_keep : Cond.code yX7_keep cX7_keep 3 (some .int) ∈ gTbl := gTbl_of (List.mem_of_getElem? (i := 758) (by decide +kernel)) (by decide +kernel)
theorem pk_X7_keep : MPI yX7_keep cX7_keep 3 (some .int) 1 := ⟨gTbl_of (List.mem_of_getElem? (i := 756) (by decide +kernel)) (by decide +kernel), gTbl_of (List.mem_of_getElem? (i := 757) (by decide +kernel)) (by decide +kernel), in_X7, wc_X7_keep, by decide +kernel, by decide +kernel, by decide +kernel⟩
theorem wc_X7_again : Cond.code yX7_again cX7_again 3 (some .int) ∈ gTbl := gTbl_of (List.mem_of_getElem? (i := 763) (by decide +kernel)) (by decide +kernel)
theorem pk_X7_again : MPI yX7_again cX7_again 3 (some .int) 1 := ⟨gTbl_of (List.mem_of_getElem? (i := 761) (by decide +kernel)) (by decide +kernel), gTbl_of (List.mem_of_getElem? (i := 762) (by decide +kernel)) (by decide +kernel), in_X7, wc_X7_again, by decide +kernel, by decide +kernel, by decide +kernel⟩
theorem wc_X7_count : Cond.code yX7_count cX7_count 2 (some .int) ∈ gTbl := gTbl_of (List.mem_of_getElem? (i := 767) (by decide +kernel)) (by decide +kernel)
theorem pk_X7_count : MPI yX7_count cX7_count 2 (some .int) 1 := ⟨gTbl_of (List.mem_of_getElem? (i := 765) (by decide +kernel)) (by decide +kernel), gTbl_of (List.mem_of_getElem? (i := 766) (by decide +kernel)) (by decide +kernel), in_X7, wc_X7_count, by decide +kernel, by decide +kernel, by decide +kernel⟩
theorem wc_X7_isPage : Cond.code yX7_isPage cX7_isPage 1 (some .boolean) ∈ gTbl := gTbl_of (List.mem_of_getElem? (i := 439) (by decide +kernel)) (by decide +kernel)
theorem pk_X7_isPage : MPS yX7_isPage cX7_isPage 1 (some .boolean) 1 := ⟨gTbl_of (List.mem_of_getElem? (i := 438) (by decide +kernel)) (by decide +kernel), in_X7, wc_X7_isPage, by decide +kernel, by decide +kernel, by decide +kernel⟩
theorem wc_X7_netAt : Cond.code yX7_netAt cX7_netAt 2 (some (.object "ShelfFilters$Net")) ∈ gTbl := gTbl_of (List.mem_of_getElem? (i := 541) (by decide +kernel)) (by decide +kernel)
theorem pk_X7_netAt : MPS yX7_netAt cX7_netAt 2 (some (.object "ShelfFilters$Net")) 2 := ⟨gTbl_of (List.mem_of_getElem? (i := 540) (by decide +kernel)) (by decide +kernel), in_X7, wc_X7_netAt, by decide +kernel, by decide +kernel, by decide +kernel⟩
theorem wc_X7_copyRow : Cond.code yX7_copyRow cX7_copyRow 3 none ∈ gTbl := gTbl_of (List.mem_of_getElem? (i := 467) (by decide +kernel)) (by decide +kernel)
theorem pk_X7_copyRow : MPS yX7_copyRow cX7_copyRow 3 none 2 := ⟨gTbl_of (List.mem_of_getElem? (i := 466) (by decide +kernel)) (by decide +kernel), in_X7, wc_X7_copyRow, by decide +kernel, by decide +kernel, by decide +kernel⟩
theorem wc_X7_powerOfTen : Cond.code yX7_powerOfTen cX7_powerOfTen 4 (some .long) ∈ gTbl := gTbl_of (List.mem_of_getElem? (i := 642) (by decide +kernel)) (by decide +kernel)
theorem pk_X7_powerOfTen : MPS yX7_powerOfTen cX7_powerOfTen 4 (some .long) 1 := ⟨gTbl_of (List.mem_of_getElem? (i := 641) (by decide +kernel)) (by decide +kernel), in_X7, wc_X7_powerOfTen, by decide +kernel, by decide +kernel, by decide +kernel⟩
theorem wc_X7_floatBits : Cond.code yX7_floatBits cX7_floatBits 3 (some .int) ∈ gTbl := gTbl_of (List.mem_of_getElem? (i := 620) (by decide +kernel)) (by decide +kernel)
theorem pk_X7_floatBits : MPS yX7_floatBits cX7_floatBits 3 (some .int) 1 := ⟨gTbl_of (List.mem_of_getElem? (i := 619) (by decide +kernel)) (by decide +kernel), in_X7, wc_X7_floatBits, by decide +kernel, by decide +kernel, by decide +kernel⟩
theorem wc_X7_ofFraction : Cond.code yX7_ofFraction cX7_ofFraction 4 (some .int) ∈ gTbl := gTbl_of (List.mem_of_getElem? (i := 727) (by decide +kernel)) (by decide +kernel)
theorem pk_X7_ofFraction : MPS yX7_ofFraction cX7_ofFraction 4 (some .int) 3 := ⟨gTbl_of (List.mem_of_getElem? (i := 726) (by decide +kernel)) (by decide +kernel), in_X7, wc_X7_ofFraction, by decide +kernel, by decide +kernel, by decide +kernel⟩
theorem wc_X7_commonDivisor : Cond.code yX7_commonDivisor cX7_commonDivisor 6 (some .int) ∈ gTbl := gTbl_of (List.mem_of_getElem? (i := 730) (by decide +kernel)) (by decide +kernel)
theorem pk_X7_commonDivisor : MPS yX7_commonDivisor cX7_commonDivisor 6 (some .int) 2 := ⟨gTbl_of (List.mem_of_getElem? (i := 729) (by decide +kernel)) (by decide +kernel), in_X7, wc_X7_commonDivisor, by decide +kernel, by decide +kernel, by decide +kernel⟩
theorem wc_X7_wayWeight : Cond.code yX7_wayWeight cX7_wayWeight 5 (some .int) ∈ gTbl := gTbl_of (List.mem_of_getElem? (i := 744) (by decide +kernel)) (by decide +kernel)
theorem pk_X7_wayWeight : MPI yX7_wayWeight cX7_wayWeight 5 (some .int) 2 := ⟨gTbl_of (List.mem_of_getElem? (i := 743) (by decide +kernel)) (by decide +kernel), gTbl_of (List.mem_of_getElem? (i := 18) (by decide +kernel)) (by decide +kernel), in_X7, wc_X7_wayWeight, by decide +kernel, by decide +kernel, by decide +kernel⟩
theorem wc_X7_findCheapest : Cond.code yX7_findCheapest cX7_findCheapest 7 (some .int) ∈ gTbl := gTbl_of (List.mem_of_getElem? (i := 656) (by decide +kernel)) (by decide +kernel)
theorem pk_X7_findCheapest : MPI yX7_findCheapest cX7_findCheapest 7 (some .int) 2 := ⟨gTbl_of (List.mem_of_getElem? (i := 655) (by decide +kernel)) (by decide +kernel), gTbl_of (List.mem_of_getElem? (i := 14) (by decide +kernel)) (by decide +kernel), in_X7, wc_X7_findCheapest, by decide +kernel, by decide +kernel, by decide +kernel⟩
theorem wc_X7_triedCost : Cond.code yX7_triedCost cX7_triedCost 3 (some .int) ∈ gTbl := gTbl_of (List.mem_of_getElem? (i := 664) (by decide +kernel)) (by decide +kernel)
theorem pk_X7_triedCost : MPI yX7_triedCost cX7_triedCost 3 (some .int) 1 := ⟨gTbl_of (List.mem_of_getElem? (i := 663) (by decide +kernel)) (by decide +kernel), gTbl_of (List.mem_of_getElem? (i := 15) (by decide +kernel)) (by decide +kernel), in_X7, wc_X7_triedCost, by decide +kernel, by decide +kernel, by decide +kernel⟩
theorem wc_X7_holds : Cond.code yX7_holds cX7_holds 7 (some .boolean) ∈ gTbl := gTbl_of (List.mem_of_getElem? (i := 690) (by decide +kernel)) (by decide +kernel)
theorem pk_X7_holds : MPS yX7_holds cX7_holds 7 (some .boolean) 2 := ⟨gTbl_of (List.mem_of_getElem? (i := 689) (by decide +kernel)) (by decide +kernel), in_X7, wc_X7_holds, by decide +kernel, by decide +kernel, by decide +kernel⟩
theorem wc_X8_init : Cond.code yX8_init cX8_init 1 none ∈ gTbl := gTbl_of (List.mem_of_getElem? (i := 776) (by decide +kernel)) (by decide +kernel)
theorem wi_X8_init : Cond.instanceMethod yX8_init ∈ gTbl := gTbl_of (List.mem_of_getElem? (i := 775) (by decide +kernel)) (by decide +kernel)
theorem wc_X8_in : Cond.code yX8_in cX8_in 6 (some .boolean) ∈ gTbl := gTbl_of (List.mem_of_getElem? (i := 885) (by decide +kernel)) (by decide +kernel)
theorem pk_X8_in : MPS yX8_in cX8_in 6 (some .boolean) 3 := ⟨gTbl_of (List.mem_of_getElem? (i := 884) (by decide +kernel)) (by decide +kernel), in_X8, wc_X8_in, by decide +kernel, by decide +kernel, by decide +kernel⟩
theorem wc_X8_has : Cond.code yX8_has cX8_has 2 (some .boolean) ∈ gTbl := gTbl_of (List.mem_of_getElem? (i := 976) (by decide +kernel)) (by decide +kernel)
theorem pk_X8_has : MPS yX8_has cX8_has 2 (some .boolean) 2 := ⟨gTbl_of (List.mem_of_getElem? (i := 975) (by decide +kernel)) (by decide +kernel), in_X8, wc_X8_has, by decide +kernel, by decide +kernel, by decide +kernel⟩
theorem wc_X8_ones : Cond.code yX8_ones cX8_ones 3 (some .int) ∈ gTbl := gTbl_of (List.mem_of_getElem? (i := 1075) (by decide +kernel)) (by decide +kernel)
theorem pk_X8_ones : MPS yX8_ones cX8_ones 3 (some .int) 1 := ⟨gTbl_of (List.mem_of_getElem? (i := 1074) (by decide +kernel)) (by decide +kernel), in_X8, wc_X8_ones, by decide +kernel, by decide +kernel, by decide +kernel⟩
theorem wc_X8_power : Cond.code yX8_power cX8_power 4 (some .int) ∈ gTbl := gTbl_of (List.mem_of_getElem? (i := 1101) (by decide +kernel)) (by decide +kernel)
theorem pk_X8_power : MPS yX8_power cX8_power 4 (some .int) 2 := ⟨gTbl_of (List.mem_of_getElem? (i := 1100) (by decide +kernel)) (by decide +kernel), in_X8, wc_X8_power, by decide +kernel, by decide +kernel, by decide +kernel⟩
theorem wc_X8_layTrial : Cond.code yX8_layTrial cX8_layTrial 2 none ∈ gTbl := gTbl_of (List.mem_of_getElem? (i := 1105) (by decide +kernel)) (by decide +kernel)
theorem pk_X8_layTrial : MPI yX8_layTrial cX8_layTrial 2 none 0 := ⟨gTbl_of (List.mem_of_getElem? (i := 1104) (by decide +kernel)) (by decide +kernel), gTbl_of (List.mem_of_getElem? (i := 47) (by decide +kernel)) (by decide +kernel), in_X8, wc_X8_layTrial, by decide +kernel, by decide +kernel, by decide +kernel⟩
theorem wc_X8_noProxy : Cond.code yX8_noProxy cX8_noProxy 2 (some .boolean) ∈ gTbl := gTbl_of (List.mem_of_getElem? (i := 966) (by decide +kernel)) (by decide +kernel)
theorem pk_X8_noProxy : MPI yX8_noProxy cX8_noProxy 2 (some .boolean) 1 := ⟨gTbl_of (List.mem_of_getElem? (i := 965) (by decide +kernel)) (by decide +kernel), gTbl_of (List.mem_of_getElem? (i := 33) (by decide +kernel)) (by decide +kernel), in_X8, wc_X8_noProxy, by decide +kernel, by decide +kernel, by decide +kernel⟩
theorem wc_X8_noPage : Cond.code yX8_noPage cX8_noPage 1 (some .boolean) ∈ gTbl := gTbl_of (List.mem_of_getElem? (i := 1004) (by decide +kernel)) (by decide +kernel)
theorem pk_X8_noPage : MPS yX8_noPage cX8_noPage 1 (some .boolean) 1 := ⟨gTbl_of (List.mem_of_getElem? (i := 1003) (by decide +kernel)) (by decide +kernel), in_X8, wc_X8_noPage, by decide +kernel, by decide +kernel, by decide +kernel⟩
theorem wc_X8_write : Cond.code yX8_write cX8_write 2 (some .int) ∈ gTbl := gTbl_of (List.mem_of_getElem? (i := 881) (by decide +kernel)) (by decide +kernel)
theorem pk_X8_write : MPI yX8_write cX8_write 2 (some .int) 1 := ⟨gTbl_of (List.mem_of_getElem? (i := 879) (by decide +kernel)) (by decide +kernel), gTbl_of (List.mem_of_getElem? (i := 880) (by decide +kernel)) (by decide +kernel), in_X8, wc_X8_write, by decide +kernel, by decide +kernel, by decide +kernel⟩
theorem wc_X8_wipe : Cond.code yX8_wipe cX8_wipe 2 (some .int) ∈ gTbl := gTbl_of (List.mem_of_getElem? (i := 889) (by decide +kernel)) (by decide +kernel)
theorem pk_X8_wipe : MPI yX8_wipe cX8_wipe 2 (some .int) 0 := ⟨gTbl_of (List.mem_of_getElem? (i := 887) (by decide +kernel)) (by decide +kernel), gTbl_of (List.mem_of_getElem? (i := 888) (by decide +kernel)) (by decide +kernel), in_X8, wc_X8_wipe, by decide +kernel, by decide +kernel, by decide +kernel⟩
theorem wc_X8_isFigure : Cond.code yX8_isFigure cX8_isFigure 4 (some .boolean) ∈ gTbl := gTbl_of (List.mem_of_getElem? (i := 905) (by decide +kernel)) (by decide +kernel)
theorem pk_X8_isFigure : MPI yX8_isFigure cX8_isFigure 4 (some .boolean) 2 := ⟨gTbl_of (List.mem_of_getElem? (i := 904) (by decide +kernel)) (by decide +kernel), gTbl_of (List.mem_of_getElem? (i := 21) (by decide +kernel)) (by decide +kernel), in_X8, wc_X8_isFigure, by decide +kernel, by decide +kernel, by decide +kernel⟩
theorem wc_X8_taken : Cond.code yX8_taken cX8_taken 2 (some .int) ∈ gTbl := gTbl_of (List.mem_of_getElem? (i := 909) (by decide +kernel)) (by decide +kernel)
theorem pk_X8_taken : MPI yX8_taken cX8_taken 2 (some .int) 1 := ⟨gTbl_of (List.mem_of_getElem? (i := 908) (by decide +kernel)) (by decide +kernel), gTbl_of (List.mem_of_getElem? (i := 22) (by decide +kernel)) (by decide +kernel), in_X8, wc_X8_taken, by decide +kernel, by decide +kernel, by decide +kernel⟩
theorem wc_X8_readHead : Cond.code yX8_readHead cX8_readHead 2 (some .boolean) ∈ gTbl := gTbl_of (List.mem_of_getElem? (i := 901) (by decide +kernel)) (by decide +kernel)
theorem pk_X8_readHead : MPI yX8_readHead cX8_readHead 2 (some .boolean) 0 := ⟨gTbl_of (List.mem_of_getElem? (i := 900) (by decide +kernel)) (by decide +kernel), gTbl_of (List.mem_of_getElem? (i := 20) (by decide +kernel)) (by decide +kernel), in_X8, wc_X8_readHead, by decide +kernel, by decide +kernel, by decide +kernel⟩
theorem wc_X8_readFamily : Cond.code yX8_readFamily cX8_readFamily 1 (some .boolean) ∈ gTbl := gTbl_of (List.mem_of_getElem? (i := 917) (by decide +kernel)) (by decide +kernel)
theorem pk_X8_readFamily : MPI yX8_readFamily cX8_readFamily 1 (some .boolean) 0 := ⟨gTbl_of (List.mem_of_getElem? (i := 916) (by decide +kernel)) (by decide +kernel), gTbl_of (List.mem_of_getElem? (i := 24) (by decide +kernel)) (by decide +kernel), in_X8, wc_X8_readFamily, by decide +kernel, by decide +kernel, by decide +kernel⟩
theorem wc_X8_readProxy : Cond.code yX8_readProxy cX8_readProxy 1 (some .boolean) ∈ gTbl := gTbl_of (List.mem_of_getElem? (i := 921) (by decide +kernel)) (by decide +kernel)
theorem pk_X8_readProxy : MPI yX8_readProxy cX8_readProxy 1 (some .boolean) 0 := ⟨gTbl_of (List.mem_of_getElem? (i := 920) (by decide +kernel)) (by decide +kernel), gTbl_of (List.mem_of_getElem? (i := 25) (by decide +kernel)) (by decide +kernel), in_X8, wc_X8_readProxy, by decide +kernel, by decide +kernel, by decide +kernel⟩
theorem wc_X8_hasRoom : Cond.code yX8_hasRoom cX8_hasRoom 2 (some .boolean) ∈ gTbl := gTbl_of (List.mem_of_getElem? (i := 929) (by decide +kernel)) (by decide +kernel)
theorem pk_X8_hasRoom : MPI yX8_hasRoom cX8_hasRoom 2 (some .boolean) 1 := ⟨gTbl_of (List.mem_of_getElem? (i := 928) (by decide +kernel)) (by decide +kernel), gTbl_of (List.mem_of_getElem? (i := 27) (by decide +kernel)) (by decide +kernel), in_X8, wc_X8_hasRoom, by decide +kernel, by decide +kernel, by decide +kernel⟩
theorem wc_X8_mayCome : Cond.code yX8_mayCome cX8_mayCome 7 (some .boolean) ∈ gTbl := gTbl_of (List.mem_of_getElem? (i := 934) (by decide +kernel)) (by decide +kernel)
theorem pk_X8_mayCome : MPI yX8_mayCome cX8_mayCome 7 (some .boolean) 3 := ⟨gTbl_of (List.mem_of_getElem? (i := 933) (by decide +kernel)) (by decide +kernel), gTbl_of (List.mem_of_getElem? (i := 28) (by decide +kernel)) (by decide +kernel), in_X8, wc_X8_mayCome, by decide +kernel, by decide +kernel, by decide +kernel⟩
theorem wc_X8_readShelf : Cond.code yX8_readShelf cX8_readShelf 4 (some .boolean) ∈ gTbl := gTbl_of (List.mem_of_getElem? (i := 925) (by decide +kernel)) (by decide +kernel)
theorem pk_X8_readShelf : MPI yX8_readShelf cX8_readShelf 4 (some .boolean) 0 := ⟨gTbl_of (List.mem_of_getElem? (i := 924) (by decide +kernel)) (by decide +kernel), gTbl_of (List.mem_of_getElem? (i := 26) (by decide +kernel)) (by decide +kernel), in_X8, wc_X8_readShelf, by decide +kernel, by decide +kernel, by decide +kernel⟩
theorem wc_X8_readPart : Cond.code yX8_readPart cX8_readPart 1 (some .boolean) ∈ gTbl := gTbl_of (List.mem_of_getElem? (i := 913) (by decide +kernel)) (by decide +kernel)
theorem pk_X8_readPart : MPI yX8_readPart cX8_readPart 1 (some .boolean) 0 := ⟨gTbl_of (List.mem_of_getElem? (i := 912) (by decide +kernel)) (by decide +kernel), gTbl_of (List.mem_of_getElem? (i := 23) (by decide +kernel)) (by decide +kernel), in_X8, wc_X8_readPart, by decide +kernel, by decide +kernel, by decide +kernel⟩
theorem wc_X8_readNet : Cond.code yX8_readNet cX8_readNet 2 (some .int) ∈ gTbl := gTbl_of (List.mem_of_getElem? (i := 897) (by decide +kernel)) (by decide +kernel)
theorem pk_X8_readNet : MPI yX8_readNet cX8_readNet 2 (some .int) 0 := ⟨gTbl_of (List.mem_of_getElem? (i := 896) (by decide +kernel)) (by decide +kernel), gTbl_of (List.mem_of_getElem? (i := 19) (by decide +kernel)) (by decide +kernel), in_X8, wc_X8_readNet, by decide +kernel, by decide +kernel, by decide +kernel⟩
theorem wc_X8_fault : Cond.code yX8_fault cX8_fault 1 (some .int) ∈ gTbl := gTbl_of (List.mem_of_getElem? (i := 893) (by decide +kernel)) (by decide +kernel)
theorem pk_X8_fault : MPI yX8_fault cX8_fault 1 (some .int) 0 := ⟨gTbl_of (List.mem_of_getElem? (i := 891) (by decide +kernel)) (by decide +kernel), gTbl_of (List.mem_of_getElem? (i := 892) (by decide +kernel)) (by decide +kernel), in_X8, wc_X8_fault, by decide +kernel, by decide +kernel, by decide +kernel⟩
theorem wc_X8_net : Cond.code yX8_net cX8_net 2 (some .int) ∈ gTbl := gTbl_of (List.mem_of_getElem? (i := 942) (by decide +kernel)) (by decide +kernel)
theorem pk_X8_net : MPI yX8_net cX8_net 2 (some .int) 0 := ⟨gTbl_of (List.mem_of_getElem? (i := 940) (by decide +kernel)) (by decide +kernel), gTbl_of (List.mem_of_getElem? (i := 941) (by decide +kernel)) (by decide +kernel), in_X8, wc_X8_net, by decide +kernel, by decide +kernel, by decide +kernel⟩
theorem wc_X8_hashOf : Cond.code yX8_hashOf cX8_hashOf 4 (some .int) ∈ gTbl := gTbl_of (List.mem_of_getElem? (i := 954) (by decide +kernel)) (by decide +kernel)
theorem pk_X8_hashOf : MPI yX8_hashOf cX8_hashOf 4 (some .int) 3 := ⟨gTbl_of (List.mem_of_getElem? (i := 953) (by decide +kernel)) (by decide +kernel), gTbl_of (List.mem_of_getElem? (i := 31) (by decide +kernel)) (by decide +kernel), in_X8, wc_X8_hashOf, by decide +kernel, by decide +kernel, by decide +kernel⟩
theorem wc_X8_filterOf : Cond.code yX8_filterOf cX8_filterOf 5 (some .int) ∈ gTbl := gTbl_of (List.mem_of_getElem? (i := 958) (by decide +kernel)) (by decide +kernel)
theorem pk_X8_filterOf : MPI yX8_filterOf cX8_filterOf 5 (some .int) 2 := ⟨gTbl_of (List.mem_of_getElem? (i := 957) (by decide +kernel)) (by decide +kernel), gTbl_of (List.mem_of_getElem? (i := 32) (by decide +kernel)) (by decide +kernel), in_X8, wc_X8_filterOf, by decide +kernel, by decide +kernel, by decide +kernel⟩
theorem wc_X8_isSaid : Cond.code yX8_isSaid cX8_isSaid 6 (some .boolean) ∈ gTbl := gTbl_of (List.mem_of_getElem? (i := 980) (by decide +kernel)) (by decide +kernel)
theorem pk_X8_isSaid : MPI yX8_isSaid cX8_isSaid 6 (some .boolean) 3 := ⟨gTbl_of (List.mem_of_getElem? (i := 979) (by decide +kernel)) (by decide +kernel), gTbl_of (List.mem_of_getElem? (i := 35) (by decide +kernel)) (by decide +kernel), in_X8, wc_X8_isSaid, by decide +kernel, by decide +kernel, by decide +kernel⟩
theorem wc_X8_summarySays : Cond.code yX8_summarySays cX8_summarySays 4 (some .boolean) ∈ gTbl := gTbl_of (List.mem_of_getElem? (i := 988) (by decide +kernel)) (by decide +kernel)
theorem pk_X8_summarySays : MPI yX8_summarySays cX8_summarySays 4 (some .boolean) 3 := ⟨gTbl_of (List.mem_of_getElem? (i := 987) (by decide +kernel)) (by decide +kernel), gTbl_of (List.mem_of_getElem? (i := 37) (by decide +kernel)) (by decide +kernel), in_X8, wc_X8_summarySays, by decide +kernel, by decide +kernel, by decide +kernel⟩
theorem wc_X8_tally : Cond.code yX8_tally cX8_tally 7 none ∈ gTbl := gTbl_of (List.mem_of_getElem? (i := 950) (by decide +kernel)) (by decide +kernel)
theorem pk_X8_tally : MPI yX8_tally cX8_tally 7 none 4 := ⟨gTbl_of (List.mem_of_getElem? (i := 949) (by decide +kernel)) (by decide +kernel), gTbl_of (List.mem_of_getElem? (i := 30) (by decide +kernel)) (by decide +kernel), in_X8, wc_X8_tally, by decide +kernel, by decide +kernel, by decide +kernel⟩
theorem wc_X8_makeAnew : Cond.code yX8_makeAnew cX8_makeAnew 4 none ∈ gTbl := gTbl_of (List.mem_of_getElem? (i := 946) (by decide +kernel)) (by decide +kernel)
theorem pk_X8_makeAnew : MPI yX8_makeAnew cX8_makeAnew 4 none 2 := ⟨gTbl_of (List.mem_of_getElem? (i := 945) (by decide +kernel)) (by decide +kernel), gTbl_of (List.mem_of_getElem? (i := 29) (by decide +kernel)) (by decide +kernel), in_X8, wc_X8_makeAnew, by decide +kernel, by decide +kernel, by decide +kernel⟩
theorem wc_X8_placeOf : Cond.code yX8_placeOf cX8_placeOf 5 (some .int) ∈ gTbl := gTbl_of (List.mem_of_getElem? (i := 937) (by decide +kernel)) (by decide +kernel)
theorem pk_X8_placeOf : MPS yX8_placeOf cX8_placeOf 5 (some .int) 3 := ⟨gTbl_of (List.mem_of_getElem? (i := 936) (by decide +kernel)) (by decide +kernel), in_X8, wc_X8_placeOf, by decide +kernel, by decide +kernel, by decide +kernel⟩
theorem wc_X8_freshen : Cond.code yX8_freshen cX8_freshen 5 none ∈ gTbl := gTbl_of (List.mem_of_getElem? (i := 1024) (by decide +kernel)) (by decide +kernel)
theorem pk_X8_freshen : MPS yX8_freshen cX8_freshen 5 none 3 := ⟨gTbl_of (List.mem_of_getElem? (i := 1023) (by decide +kernel)) (by decide +kernel), in_X8, wc_X8_freshen, by decide +kernel, by decide +kernel, by decide +kernel⟩
theorem wc_X8_goOut : Cond.code yX8_goOut cX8_goOut 5 none ∈ gTbl := gTbl_of (List.mem_of_getElem? (i := 1040) (by decide +kernel)) (by decide +kernel)
theorem pk_X8_goOut : MPI yX8_goOut cX8_goOut 5 none 3 := ⟨gTbl_of (List.mem_of_getElem? (i := 1039) (by decide +kernel)) (by decide +kernel), gTbl_of (List.mem_of_getElem? (i := 43) (by decide +kernel)) (by decide +kernel), in_X8, wc_X8_goOut, by decide +kernel, by decide +kernel, by decide +kernel⟩
theorem wc_X8_comeTo : Cond.code yX8_comeTo cX8_comeTo 4 none ∈ gTbl := gTbl_of (List.mem_of_getElem? (i := 1036) (by decide +kernel)) (by decide +kernel)
theorem pk_X8_comeTo : MPI yX8_comeTo cX8_comeTo 4 none 3 := ⟨gTbl_of (List.mem_of_getElem? (i := 1035) (by decide +kernel)) (by decide +kernel), gTbl_of (List.mem_of_getElem? (i := 42) (by decide +kernel)) (by decide +kernel), in_X8, wc_X8_comeTo, by decide +kernel, by decide +kernel, by decide +kernel⟩
theorem wc_X8_sendOn : Cond.code yX8_sendOn cX8_sendOn 3 none ∈ gTbl := gTbl_of (List.mem_of_getElem? (i := 1032) (by decide +kernel)) (by decide +kernel)
theorem pk_X8_sendOn : MPI yX8_sendOn cX8_sendOn 3 none 2 := ⟨gTbl_of (List.mem_of_getElem? (i := 1031) (by decide +kernel)) (by decide +kernel), gTbl_of (List.mem_of_getElem? (i := 41) (by decide +kernel)) (by decide +kernel), in_X8, wc_X8_sendOn, by decide +kernel, by decide +kernel, by decide +kernel⟩
theorem wc_X8_sendDue : Cond.code yX8_sendDue cX8_sendDue 3 none ∈ gTbl := gTbl_of (List.mem_of_getElem? (i := 1028) (by decide +kernel)) (by decide +kernel)
theorem pk_X8_sendDue : MPI yX8_sendDue cX8_sendDue 3 none 1 := ⟨gTbl_of (List.mem_of_getElem? (i := 1027) (by decide +kernel)) (by decide +kernel), gTbl_of (List.mem_of_getElem? (i := 40) (by decide +kernel)) (by decide +kernel), in_X8, wc_X8_sendDue, by decide +kernel, by decide +kernel, by decide +kernel⟩
theorem wc_X8_askOn : Cond.code yX8_askOn cX8_askOn 8 (some .int) ∈ gTbl := gTbl_of (List.mem_of_getElem? (i := 1021) (by decide +kernel)) (by decide +kernel)
theorem pk_X8_askOn : MPI yX8_askOn cX8_askOn 8 (some .int) 3 := ⟨gTbl_of (List.mem_of_getElem? (i := 1020) (by decide +kernel)) (by decide +kernel), gTbl_of (List.mem_of_getElem? (i := 39) (by decide +kernel)) (by decide +kernel), in_X8, wc_X8_askOn, by decide +kernel, by decide +kernel, by decide +kernel⟩
theorem wc_X8_dropOn : Cond.code yX8_dropOn cX8_dropOn 4 none ∈ gTbl := gTbl_of (List.mem_of_getElem? (i := 1048) (by decide +kernel)) (by decide +kernel)
theorem pk_X8_dropOn : MPI yX8_dropOn cX8_dropOn 4 none 3 := ⟨gTbl_of (List.mem_of_getElem? (i := 1047) (by decide +kernel)) (by decide +kernel), gTbl_of (List.mem_of_getElem? (i := 44) (by decide +kernel)) (by decide +kernel), in_X8, wc_X8_dropOn, by decide +kernel, by decide +kernel, by decide +kernel⟩
theorem wc_X8_useOn : Cond.code yX8_useOn cX8_useOn 4 none ∈ gTbl := gTbl_of (List.mem_of_getElem? (i := 1064) (by decide +kernel)) (by decide +kernel)
theorem pk_X8_useOn : MPI yX8_useOn cX8_useOn 4 none 2 := ⟨gTbl_of (List.mem_of_getElem? (i := 1063) (by decide +kernel)) (by decide +kernel), gTbl_of (List.mem_of_getElem? (i := 45) (by decide +kernel)) (by decide +kernel), in_X8, wc_X8_useOn, by decide +kernel, by decide +kernel, by decide +kernel⟩
theorem wc_X8_shelfOf : Cond.code yX8_shelfOf cX8_shelfOf 4 (some .int) ∈ gTbl := gTbl_of (List.mem_of_getElem? (i := 969) (by decide +kernel)) (by decide +kernel)
theorem pk_X8_shelfOf : MPS yX8_shelfOf cX8_shelfOf 4 (some .int) 2 := ⟨gTbl_of (List.mem_of_getElem? (i := 968) (by decide +kernel)) (by decide +kernel), in_X8, wc_X8_shelfOf, by decide +kernel, by decide +kernel, by decide +kernel⟩
theorem wc_X8_falseOnes : Cond.code yX8_falseOnes cX8_falseOnes 6 (some .int) ∈ gTbl := gTbl_of (List.mem_of_getElem? (i := 973) (by decide +kernel)) (by decide +kernel)
theorem pk_X8_falseOnes : MPI yX8_falseOnes cX8_falseOnes 6 (some .int) 3 := ⟨gTbl_of (List.mem_of_getElem? (i := 972) (by decide +kernel)) (by decide +kernel), gTbl_of (List.mem_of_getElem? (i := 34) (by decide +kernel)) (by decide +kernel), in_X8, wc_X8_falseOnes, by decide +kernel, by decide +kernel, by decide +kernel⟩
theorem wc_X8_denied : Cond.code yX8_denied cX8_denied 4 (some .int) ∈ gTbl := gTbl_of (List.mem_of_getElem? (i := 984) (by decide +kernel)) (by decide +kernel)
theorem pk_X8_denied : MPI yX8_denied cX8_denied 4 (some .int) 1 := ⟨gTbl_of (List.mem_of_getElem? (i := 983) (by decide +kernel)) (by decide +kernel), gTbl_of (List.mem_of_getElem? (i := 36) (by decide +kernel)) (by decide +kernel), in_X8, wc_X8_denied, by decide +kernel, by decide +kernel, by decide +kernel⟩
theorem wc_X8_proxy : Cond.code yX8_proxy cX8_proxy 4 (some .int) ∈ gTbl := gTbl_of (List.mem_of_getElem? (i := 962) (by decide +kernel)) (by decide +kernel)
theorem pk_X8_proxy : MPI yX8_proxy cX8_proxy 4 (some .int) 2 := ⟨gTbl_of (List.mem_of_getElem? (i := 960) (by decide +kernel)) (by decide +kernel), gTbl_of (List.mem_of_getElem? (i := 961) (by decide +kernel)) (by decide +kernel), in_X8, wc_X8_proxy, by decide +kernel, by decide +kernel, by decide +kernel⟩
theorem wc_X8_page : Cond.code yX8_page cX8_page 3 (some .int) ∈ gTbl := gTbl_of (List.mem_of_getElem? (i := 992) (by decide +kernel)) (by decide +kernel)
theorem pk_X8_page : MPI yX8_page cX8_page 3 (some .int) 2 := ⟨gTbl_of (List.mem_of_getElem? (i := 990) (by decide +kernel)) (by decide +kernel), gTbl_of (List.mem_of_getElem? (i := 991) (by decide +kernel)) (by decide +kernel), in_X8, wc_X8_page, by decide +kernel, by decide +kernel, by decide +kernel⟩
theorem wc_X8_counter : Cond.code yX8_counter cX8_counter 3 (some .int) ∈ gTbl := gTbl_of (List.mem_of_getElem? (i := 997) (by decide +kernel)) (by decide +kernel)
theorem pk_X8_counter : MPI yX8_counter cX8_counter 3 (some .int) 2 := ⟨gTbl_of (List.mem_of_getElem? (i := 995) (by decide +kernel)) (by decide +kernel), gTbl_of (List.mem_of_getElem? (i := 996) (by decide +kernel)) (by decide +kernel), in_X8, wc_X8_counter, by decide +kernel, by decide +kernel, by decide +kernel⟩
theorem wc_X8_hash : Cond.code yX8_hash cX8_hash 4 (some .int) ∈ gTbl := gTbl_of (List.mem_of_getElem? (i := 1001) (by decide +kernel)) (by decide +kernel)
theorem pk_X8_hash : MPI yX8_hash cX8_hash 4 (some .int) 3 := ⟨gTbl_of (List.mem_of_getElem? (i := 999) (by decide +kernel)) (by decide +kernel), gTbl_of (List.mem_of_getElem? (i := 1000) (by decide +kernel)) (by decide +kernel), in_X8, wc_X8_hash, by decide +kernel, by decide +kernel, by decide +kernel⟩
theorem wc_X8_says : Cond.code yX8_says cX8_says 4 (some .int) ∈ gTbl := gTbl_of (List.mem_of_getElem? (i := 1009) (by decide +kernel)) (by decide +kernel)
theorem pk_X8_says : MPI yX8_says cX8_says 4 (some .int) 3 := ⟨gTbl_of (List.mem_of_getElem? (i := 1007) (by decide +kernel)) (by decide +kernel), gTbl_of (List.mem_of_getElem? (i := 1008) (by decide +kernel)) (by decide +kernel), in_X8, wc_X8_says, by decide +kernel, by decide +kernel, by decide +kernel⟩
theorem wc_X8_note : Cond.code yX8_note cX8_note 2 none ∈ gTbl := gTbl_of (List.mem_of_getElem? (i := 1017) (by decide +kernel)) (by decide +kernel)
theorem pk_X8_note : MPI yX8_note cX8_note 2 none 0 := ⟨gTbl_of (List.mem_of_getElem? (i := 1016) (by decide +kernel)) (by decide +kernel), gTbl_of (List.mem_of_getElem? (i := 38) (by decide +kernel)) (by decide +kernel), in_X8, wc_X8_note, by decide +kernel, by decide +kernel, by decide +kernel⟩
theorem wc_X8_ask : Cond.code yX8_ask cX8_ask 3 (some .int) ∈ gTbl := gTbl_of (List.mem_of_getElem? (i := 1013) (by decide +kernel)) (by decide +kernel)
theorem pk_X8_ask : MPI yX8_ask cX8_ask 3 (some .int) 2 := ⟨gTbl_of (List.mem_of_getElem? (i := 1011) (by decide +kernel)) (by decide +kernel), gTbl_of (List.mem_of_getElem? (i := 1012) (by decide +kernel)) (by decide +kernel), in_X8, wc_X8_ask, by decide +kernel, by decide +kernel, by decide +kernel⟩
theorem wc_X8_drop : Cond.code yX8_drop cX8_drop 4 (some .int) ∈ gTbl := gTbl_of (List.mem_of_getElem? (i := 1044) (by decide +kernel)) (by decide +kernel)
theorem pk_X8_drop : MPI yX8_drop cX8_drop 4 (some .int) 2 := ⟨gTbl_of (List.mem_of_getElem? (i := 1042) (by decide +kernel)) (by decide +kernel), gTbl_of (List.mem_of_getElem? (i := 1043) (by decide +kernel)) (by decide +kernel), in_X8, wc_X8_drop, by decide +kernel, by decide +kernel, by decide +kernel⟩
theorem wc_X8_send : Cond.code yX8_send cX8_send 2 (some .int) ∈ gTbl := gTbl_of (List.mem_of_getElem? (i := 1052) (by decide +kernel)) (by decide +kernel)
theorem pk_X8_send : MPI yX8_send cX8_send 2 (some .int) 1 := ⟨gTbl_of (List.mem_of_getElem? (i := 1050) (by decide +kernel)) (by decide +kernel), gTbl_of (List.mem_of_getElem? (i := 1051) (by decide +kernel)) (by decide +kernel), in_X8, wc_X8_send, by decide +kernel, by decide +kernel, by decide +kernel⟩
theorem wc_X8_threshold : Cond.code yX8_threshold cX8_threshold 4 (some .int) ∈ gTbl := gTbl_of (List.mem_of_getElem? (i := 1056) (by decide +kernel)) (by decide +kernel)
theorem pk_X8_threshold : MPI yX8_threshold cX8_threshold 4 (some .int) 2 := ⟨gTbl_of (List.mem_of_getElem? (i := 1054) (by decide +kernel)) (by decide +kernel), gTbl_of (List.mem_of_getElem? (i := 1055) (by decide +kernel)) (by decide +kernel), in_X8, wc_X8_threshold, by decide +kernel, by decide +kernel, by decide +kernel⟩
theorem wc_X8_use : Cond.code yX8_use cX8_use 3 (some .int) ∈ gTbl := gTbl_of (List.mem_of_getElem? (i := 1060) (by decide +kernel)) (by decide +kernel)
theorem pk_X8_use : MPI yX8_use cX8_use 3 (some .int) 1 := ⟨gTbl_of (List.mem_of_getElem? (i := 1058) (by decide +kernel)) (by decide +kernel), gTbl_of (List.mem_of_getElem? (i := 1059) (by decide +kernel)) (by decide +kernel), in_X8, wc_X8_use, by decide +kernel, by decide +kernel, by decide +kernel⟩
theorem wc_X8_undo : Cond.code yX8_undo cX8_undo 2 (some .int) ∈ gTbl := gTbl_of (List.mem_of_getElem? (i := 1068) (by decide +kernel)) (by decide +kernel)
theorem pk_X8_undo : MPI yX8_undo cX8_undo 2 (some .int) 0 := ⟨gTbl_of (List.mem_of_getElem? (i := 1066) (by decide +kernel)) (by decide +kernel), gTbl_of (List.mem_of_getElem? (i := 1067) (by decide +kernel)) (by decide +kernel), in_X8, wc_X8_undo, by decide +kernel, by decide +kernel, by decide +kernel⟩
theorem wc_X8_weight : Cond.code yX8_weight cX8_weight 3 (some .int) ∈ gTbl := gTbl_of (List.mem_of_getElem? (i := 1072) (by decide +kernel)) (by decide +kernel)
theorem pk_X8_weight : MPI yX8_weight cX8_weight 3 (some .int) 1 := ⟨gTbl_of (List.mem_of_getElem? (i := 1070) (by decide +kernel)) (by decide +kernel), gTbl_of (List.mem_of_getElem? (i := 1071) (by decide +kernel)) (by decide +kernel), in_X8, wc_X8_weight, by decide +kernel, by decide +kernel, by decide +kernel⟩
theorem wc_X8_madeBy : Cond.code yX8_madeBy cX8_madeBy 6 (some .int) ∈ gTbl := gTbl_of (List.mem_of_getElem? (i := 1093) (by decide +kernel)) (by decide +kernel)
theorem pk_X8_madeBy : MPI yX8_madeBy cX8_madeBy 6 (some .int) 2 := ⟨gTbl_of (List.mem_of_getElem? (i := 1092) (by decide +kernel)) (by decide +kernel), gTbl_of (List.mem_of_getElem? (i := 46) (by decide +kernel)) (by decide +kernel), in_X8, wc_X8_madeBy, by decide +kernel, by decide +kernel, by decide +kernel⟩
theorem wc_X8_best : Cond.code yX8_best cX8_best 8 (some .int) ∈ gTbl := gTbl_of (List.mem_of_getElem? (i := 1089) (by decide +kernel)) (by decide +kernel)
theorem pk_X8_best : MPI yX8_best cX8_best 8 (some .int) 2 := ⟨gTbl_of (List.mem_of_getElem? (i := 1087) (by decide +kernel)) (by decide +kernel), gTbl_of (List.mem_of_getElem? (i := 1088) (by decide +kernel)) (by decide +kernel), in_X8, wc_X8_best, by decide +kernel, by decide +kernel, by decide +kernel⟩
theorem wc_X8_costOf : Cond.code yX8_costOf cX8_costOf 1 (some .int) ∈ gTbl := gTbl_of (List.mem_of_getElem? (i := 1108) (by decide +kernel)) (by decide +kernel)
theorem pk_X8_costOf : MPS yX8_costOf cX8_costOf 1 (some .int) 1 := ⟨gTbl_of (List.mem_of_getElem? (i := 1107) (by decide +kernel)) (by decide +kernel), in_X8, wc_X8_costOf, by decide +kernel, by decide +kernel, by decide +kernel⟩
theorem wc_X8_plan : Cond.code yX8_plan cX8_plan 5 (some .int) ∈ gTbl := gTbl_of (List.mem_of_getElem? (i := 1097) (by decide +kernel)) (by decide +kernel)
theorem pk_X8_plan : MPI yX8_plan cX8_plan 5 (some .int) 3 := ⟨gTbl_of (List.mem_of_getElem? (i := 1095) (by decide +kernel)) (by decide +kernel), gTbl_of (List.mem_of_getElem? (i := 1096) (by decide +kernel)) (by decide +kernel), in_X8, wc_X8_plan, by decide +kernel, by decide +kernel, by decide +kernel⟩
theorem wc_X8_layOrder : Cond.code yX8_layOrder cX8_layOrder 10 none ∈ gTbl := gTbl_of (List.mem_of_getElem? (i := 1121) (by decide +kernel)) (by decide +kernel)
theorem pk_X8_layOrder : MPI yX8_layOrder cX8_layOrder 10 none 3 := ⟨gTbl_of (List.mem_of_getElem? (i := 1120) (by decide +kernel)) (by decide +kernel), gTbl_of (List.mem_of_getElem? (i := 49) (by decide +kernel)) (by decide +kernel), in_X8, wc_X8_layOrder, by decide +kernel, by decide +kernel, by decide +kernel⟩
theorem wc_X8_layBest : Cond.code yX8_layBest cX8_layBest 8 none ∈ gTbl := gTbl_of (List.mem_of_getElem? (i := 1117) (by decide +kernel)) (by decide +kernel)
theorem pk_X8_layBest : MPI yX8_layBest cX8_layBest 8 none 2 := ⟨gTbl_of (List.mem_of_getElem? (i := 1116) (by decide +kernel)) (by decide +kernel), gTbl_of (List.mem_of_getElem? (i := 48) (by decide +kernel)) (by decide +kernel), in_X8, wc_X8_layBest, by decide +kernel, by decide +kernel, by decide +kernel⟩
theorem wc_X8_order : Cond.code yX8_order cX8_order 5 (some .int) ∈ gTbl := gTbl_of (List.mem_of_getElem? (i := 1112) (by decide +kernel)) (by decide +kernel)
theorem pk_X8_order : MPI yX8_order cX8_order 5 (some .int) 3 := ⟨gTbl_of (List.mem_of_getElem? (i := 1110) (by decide +kernel)) (by decide +kernel), gTbl_of (List.mem_of_getElem? (i := 1111) (by decide +kernel)) (by decide +kernel), in_X8, wc_X8_order, by decide +kernel, by decide +kernel, by decide +kernel⟩
theorem wc_X8_does : Cond.code yX8_does cX8_does 7 (some .boolean) ∈ gTbl := gTbl_of (List.mem_of_getElem? (i := 1133) (by decide +kernel)) (by decide +kernel)
theorem pk_X8_does : MPI yX8_does cX8_does 7 (some .boolean) 1 := ⟨gTbl_of (List.mem_of_getElem? (i := 1132) (by decide +kernel)) (by decide +kernel), gTbl_of (List.mem_of_getElem? (i := 50) (by decide +kernel)) (by decide +kernel), in_X8, wc_X8_does, by decide +kernel, by decide +kernel, by decide +kernel⟩
theorem wc_X8_longPower : Cond.code yX8_longPower cX8_longPower 6 (some .long) ∈ gTbl := gTbl_of (List.mem_of_getElem? (i := 1129) (by decide +kernel)) (by decide +kernel)
theorem pk_X8_longPower : MPS yX8_longPower cX8_longPower 6 (some .long) 2 := ⟨gTbl_of (List.mem_of_getElem? (i := 1128) (by decide +kernel)) (by decide +kernel), in_X8, wc_X8_longPower, by decide +kernel, by decide +kernel, by decide +kernel⟩
theorem wc_X8_judge : Cond.code yX8_judge cX8_judge 5 (some .int) ∈ gTbl := gTbl_of (List.mem_of_getElem? (i := 1125) (by decide +kernel)) (by decide +kernel)
theorem pk_X8_judge : MPI yX8_judge cX8_judge 5 (some .int) 2 := ⟨gTbl_of (List.mem_of_getElem? (i := 1123) (by decide +kernel)) (by decide +kernel), gTbl_of (List.mem_of_getElem? (i := 1124) (by decide +kernel)) (by decide +kernel), in_X8, wc_X8_judge, by decide +kernel, by decide +kernel, by decide +kernel⟩
theorem wc_X8_see : Cond.code yX8_see cX8_see 4 (some .int) ∈ gTbl := gTbl_of (List.mem_of_getElem? (i := 1137) (by decide +kernel)) (by decide +kernel)
theorem pk_X8_see : MPI yX8_see cX8_see 4 (some .int) 3 := ⟨gTbl_of (List.mem_of_getElem? (i := 1135) (by decide +kernel)) (by decide +kernel), gTbl_of (List.mem_of_getElem? (i := 1136) (by decide +kernel)) (by decide +kernel), in_X8, wc_X8_see, by decide +kernel, by decide +kernel, by decide +kernel⟩
theorem wc_X8_unsee : Cond.code yX8_unsee cX8_unsee 2 (some .int) ∈ gTbl := gTbl_of (List.mem_of_getElem? (i := 1142) (by decide +kernel)) (by decide +kernel)
theorem pk_X8_unsee : MPI yX8_unsee cX8_unsee 2 (some .int) 0 := ⟨gTbl_of (List.mem_of_getElem? (i := 1140) (by decide +kernel)) (by decide +kernel), gTbl_of (List.mem_of_getElem? (i := 1141) (by decide +kernel)) (by decide +kernel), in_X8, wc_X8_unsee, by decide +kernel, by decide +kernel, by decide +kernel⟩
theorem wc_X8_isSo : Cond.code yX8_isSo cX8_isSo 5 (some .boolean) ∈ gTbl := gTbl_of (List.mem_of_getElem? (i := 1150) (by decide +kernel)) (by decide +kernel)
theorem pk_X8_isSo : MPI yX8_isSo cX8_isSo 5 (some .boolean) 2 := ⟨gTbl_of (List.mem_of_getElem? (i := 1149) (by decide +kernel)) (by decide +kernel), gTbl_of (List.mem_of_getElem? (i := 51) (by decide +kernel)) (by decide +kernel), in_X8, wc_X8_isSo, by decide +kernel, by decide +kernel, by decide +kernel⟩
theorem wc_X8_which : Cond.code yX8_which cX8_which 5 (some .int) ∈ gTbl := gTbl_of (List.mem_of_getElem? (i := 1146) (by decide +kernel)) (by decide +kernel)
theorem pk_X8_which : MPI yX8_which cX8_which 5 (some .int) 0 := ⟨gTbl_of (List.mem_of_getElem? (i := 1144) (by decide +kernel)) (by decide +kernel), gTbl_of (List.mem_of_getElem? (i := 1145) (by decide +kernel)) (by decide +kernel), in_X8, wc_X8_which, by decide +kernel, by decide +kernel, by decide +kernel⟩
theorem wc_X8_divisor : Cond.code yX8_divisor cX8_divisor 5 (some .int) ∈ gTbl := gTbl_of (List.mem_of_getElem? (i := 1167) (by decide +kernel)) (by decide +kernel)
theorem pk_X8_divisor : MPS yX8_divisor cX8_divisor 5 (some .int) 2 := ⟨gTbl_of (List.mem_of_getElem? (i := 1166) (by decide +kernel)) (by decide +kernel), in_X8, wc_X8_divisor, by decide +kernel, by decide +kernel, by decide +kernel⟩
theorem wc_X8_fraction : Cond.code yX8_fraction cX8_fraction 4 (some .int) ∈ gTbl := gTbl_of (List.mem_of_getElem? (i := 1164) (by decide +kernel)) (by decide +kernel)
theorem pk_X8_fraction : MPS yX8_fraction cX8_fraction 4 (some .int) 3 := ⟨gTbl_of (List.mem_of_getElem? (i := 1163) (by decide +kernel)) (by decide +kernel), in_X8, wc_X8_fraction, by decide +kernel, by decide +kernel, by decide +kernel⟩
theorem wc_X8_factorial : Cond.code yX8_factorial cX8_factorial 3 (some .int) ∈ gTbl := gTbl_of (List.mem_of_getElem? (i := 1157) (by decide +kernel)) (by decide +kernel)
theorem pk_X8_factorial : MPS yX8_factorial cX8_factorial 3 (some .int) 1 := ⟨gTbl_of (List.mem_of_getElem? (i := 1156) (by decide +kernel)) (by decide +kernel), in_X8, wc_X8_factorial, by decide +kernel, by decide +kernel, by decide +kernel⟩
theorem wc_X8_hadBy : Cond.code yX8_hadBy cX8_hadBy 4 (some .int) ∈ gTbl := gTbl_of (List.mem_of_getElem? (i := 1161) (by decide +kernel)) (by decide +kernel)
theorem pk_X8_hadBy : MPI yX8_hadBy cX8_hadBy 4 (some .int) 1 := ⟨gTbl_of (List.mem_of_getElem? (i := 1160) (by decide +kernel)) (by decide +kernel), gTbl_of (List.mem_of_getElem? (i := 52) (by decide +kernel)) (by decide +kernel), in_X8, wc_X8_hadBy, by decide +kernel, by decide +kernel, by decide +kernel⟩
theorem wc_X8_share : Cond.code yX8_share cX8_share 6 (some .int) ∈ gTbl := gTbl_of (List.mem_of_getElem? (i := 1154) (by decide +kernel)) (by decide +kernel)
theorem pk_X8_share : MPI yX8_share cX8_share 6 (some .int) 2 := ⟨gTbl_of (List.mem_of_getElem? (i := 1152) (by decide +kernel)) (by decide +kernel), gTbl_of (List.mem_of_getElem? (i := 1153) (by decide +kernel)) (by decide +kernel), in_X8, wc_X8_share, by decide +kernel, by decide +kernel, by decide +kernel⟩
theorem wc_X8_isRight : Cond.code yX8_isRight cX8_isRight 7 (some .boolean) ∈ gTbl := gTbl_of (List.mem_of_getElem? (i := 1176) (by decide +kernel)) (by decide +kernel)
theorem pk_X8_isRight : MPI yX8_isRight cX8_isRight 7 (some .boolean) 3 := ⟨gTbl_of (List.mem_of_getElem? (i := 1175) (by decide +kernel)) (by decide +kernel), gTbl_of (List.mem_of_getElem? (i := 53) (by decide +kernel)) (by decide +kernel), in_X8, wc_X8_isRight, by decide +kernel, by decide +kernel, by decide +kernel⟩
theorem wc_X8_lost : Cond.code yX8_lost cX8_lost 7 (some .int) ∈ gTbl := gTbl_of (List.mem_of_getElem? (i := 1171) (by decide +kernel)) (by decide +kernel)
theorem pk_X8_lost : MPI yX8_lost cX8_lost 7 (some .int) 4 := ⟨gTbl_of (List.mem_of_getElem? (i := 1169) (by decide +kernel)) (by decide +kernel), gTbl_of (List.mem_of_getElem? (i := 1170) (by decide +kernel)) (by decide +kernel), in_X8, wc_X8_lost, by decide +kernel, by decide +kernel, by decide +kernel⟩
theorem wc_X8_seed : Cond.code yX8_seed cX8_seed 5 (some .long) ∈ gTbl := gTbl_of (List.mem_of_getElem? (i := 1180) (by decide +kernel)) (by decide +kernel)
theorem pk_X8_seed : MPI yX8_seed cX8_seed 5 (some .long) 1 := ⟨gTbl_of (List.mem_of_getElem? (i := 1178) (by decide +kernel)) (by decide +kernel), gTbl_of (List.mem_of_getElem? (i := 1179) (by decide +kernel)) (by decide +kernel), in_X8, wc_X8_seed, by decide +kernel, by decide +kernel, by decide +kernel⟩
theorem wc_X8_drawn : Cond.code yX8_drawn cX8_drawn 4 (some .int) ∈ gTbl := gTbl_of (List.mem_of_getElem? (i := 1184) (by decide +kernel)) (by decide +kernel)
theorem pk_X8_drawn : MPI yX8_drawn cX8_drawn 4 (some .int) 1 := ⟨gTbl_of (List.mem_of_getElem? (i := 1182) (by decide +kernel)) (by decide +kernel), gTbl_of (List.mem_of_getElem? (i := 1183) (by decide +kernel)) (by decide +kernel), in_X8, wc_X8_drawn, by decide +kernel, by decide +kernel, by decide +kernel⟩
theorem wc_X8_keep : Cond.code yX8_keep cX8_keep 3 (some .int) ∈ gTbl := gTbl_of (List.mem_of_getElem? (i := 1191) (by decide +kernel)) (by decide +kernel)
theorem pk_X8_keep : MPI yX8_keep cX8_keep 3 (some .int) 1 := ⟨gTbl_of (List.mem_of_getElem? (i := 1189) (by decide +kernel)) (by decide +kernel), gTbl_of (List.mem_of_getElem? (i := 1190) (by decide +kernel)) (by decide +kernel), in_X8, wc_X8_keep, by decide +kernel, by decide +kernel, by decide +kernel⟩
theorem wc_X8_again : Cond.code yX8_again cX8_again 3 (some .int) ∈ gTbl := gTbl_of (List.mem_of_getElem? (i := 1195) (by decide +kernel)) (by decide +kernel)
theorem pk_X8_again : MPI yX8_again cX8_again 3 (some .int) 1 := ⟨gTbl_of (List.mem_of_getElem? (i := 1193) (by decide +kernel)) (by decide +kernel), gTbl_of (List.mem_of_getElem? (i := 1194) (by decide +kernel)) (by decide +kernel), in_X8, wc_X8_again, by decide +kernel, by decide +kernel, by decide +kernel⟩
theorem wc_X8_onShelves : Cond.code yX8_onShelves cX8_onShelves 3 (some .int) ∈ gTbl := gTbl_of (List.mem_of_getElem? (i := 1203) (by decide +kernel)) (by decide +kernel)
theorem pk_X8_onShelves : MPI yX8_onShelves cX8_onShelves 3 (some .int) 0 := ⟨gTbl_of (List.mem_of_getElem? (i := 1202) (by decide +kernel)) (by decide +kernel), gTbl_of (List.mem_of_getElem? (i := 54) (by decide +kernel)) (by decide +kernel), in_X8, wc_X8_onShelves, by decide +kernel, by decide +kernel, by decide +kernel⟩
theorem wc_X8_count : Cond.code yX8_count cX8_count 2 (some .int) ∈ gTbl := gTbl_of (List.mem_of_getElem? (i := 1199) (by decide +kernel)) (by decide +kernel)
theorem pk_X8_count : MPI yX8_count cX8_count 2 (some .int) 1 := ⟨gTbl_of (List.mem_of_getElem? (i := 1197) (by decide +kernel)) (by decide +kernel), gTbl_of (List.mem_of_getElem? (i := 1198) (by decide +kernel)) (by decide +kernel), in_X8, wc_X8_count, by decide +kernel, by decide +kernel, by decide +kernel⟩
theorem wc_Jxf58ca_isNaN_12338 : Cond.code yJxf58ca_isNaN_12338 cJxf58ca_isNaN_12338 1 (some .boolean) ∈ gTbl := gTbl_of (List.mem_of_getElem? (i := 1081) (by decide +kernel)) (by decide +kernel)
theorem pk_Jxf58ca_isNaN_12338 : MPS yJxf58ca_isNaN_12338 cJxf58ca_isNaN_12338 1 (some .boolean) 1 := ⟨gTbl_of (List.mem_of_getElem? (i := 1080) (by decide +kernel)) (by decide +kernel), in_Jxf58ca, wc_Jxf58ca_isNaN_12338, by decide +kernel, by decide +kernel, by decide +kernel⟩
theorem wc_Jxf58ca_floatToIntBits_5c35a : Cond.code yJxf58ca_floatToIntBits_5c35a cJxf58ca_floatToIntBits_5c35a 1 (some .int) ∈ gTbl := gTbl_of (List.mem_of_getElem? (i := 1078) (by decide +kernel)) (by decide +kernel)
theorem pk_Jxf58ca_floatToIntBits_5c35a : MPS yJxf58ca_floatToIntBits_5c35a cJxf58ca_floatToIntBits_5c35a 1 (some .int) 1 := ⟨gTbl_of (List.mem_of_getElem? (i := 1077) (by decide +kernel)) (by decide +kernel), in_Jxf58ca, wc_Jxf58ca_floatToIntBits_5c35a, by decide +kernel, by decide +kernel, by decide +kernel⟩
theorem wc_J6_bitCount_0f7a4 : Cond.code yJ6_bitCount_0f7a4 cJ6_bitCount_0f7a4 1 (some .int) ∈ gTbl := gTbl_of (List.mem_of_getElem? (i := 501) (by decide +kernel)) (by decide +kernel)
theorem pk_J6_bitCount_0f7a4 : MPS yJ6_bitCount_0f7a4 cJ6_bitCount_0f7a4 1 (some .int) 1 := ⟨gTbl_of (List.mem_of_getElem? (i := 500) (by decide +kernel)) (by decide +kernel), in_J6, wc_J6_bitCount_0f7a4, by decide +kernel, by decide +kernel, by decide +kernel⟩
theorem wc_J9_min_7cf53 : Cond.code yJ9_min_7cf53 cJ9_min_7cf53 2 (some .int) ∈ gTbl := gTbl_of (List.mem_of_getElem? (i := 545) (by decide +kernel)) (by decide +kernel)
theorem pk_J9_min_7cf53 : MPS yJ9_min_7cf53 cJ9_min_7cf53 2 (some .int) 2 := ⟨gTbl_of (List.mem_of_getElem? (i := 544) (by decide +kernel)) (by decide +kernel), in_J9, wc_J9_min_7cf53, by decide +kernel, by decide +kernel, by decide +kernel⟩
theorem st_floatToRawIntBits : Cond.static ⟨"java/lang/Float", "floatToRawIntBits", "(F)I"⟩ ∈ gTbl := gTbl_of (List.mem_of_getElem? (i := 1083) (by decide +kernel)) (by decide +kernel)
theorem oi_inst : Cond.instanceMethod objectInit ∈ gTbl := gTbl_of (List.mem_of_getElem? (i := 74) (by decide +kernel)) (by decide +kernel)
theorem oi_code : Cond.code objectInit ⟨#[0xb1]⟩ 1 none ∈ gTbl := gTbl_of (List.mem_of_getElem? (i := 75) (by decide +kernel)) (by decide +kernel)
theorem cp_0 : CPk 0 RX0 TX0 6 tyX0 := ⟨rfl, fun w h => gTbl_of ((show ∀ w ∈ u_ws RX0 TX0 6, w ∈ lw_tbl by decide +kernel) w h) ((show ∀ w ∈ u_ws RX0 TX0 6, goodWord w = true by decide +kernel) w h), tyX0_ok, nmX0⟩
theorem iw_0 : ∀ w ∈ wsX00, w ∈ gTbl := cp_0.2.1
theorem cp_1 : CPk 1 RX1 TX1 7 tyX1 := ⟨rfl, fun w h => gTbl_of ((show ∀ w ∈ u_ws RX1 TX1 7, w ∈ lw_tbl by decide +kernel) w h) ((show ∀ w ∈ u_ws RX1 TX1 7, goodWord w = true by decide +kernel) w h), tyX1_ok, nmX1⟩
theorem iw_1 : ∀ w ∈ wsX10, w ∈ gTbl := cp_1.2.1
theorem cp_2 : CPk 2 RX2 TX2 2 tyX2 := ⟨rfl, fun w h => gTbl_of ((show ∀ w ∈ u_ws RX2 TX2 2, w ∈ lw_tbl by decide +kernel) w h) ((show ∀ w ∈ u_ws RX2 TX2 2, goodWord w = true by decide +kernel) w h), tyX2_ok, nmX2⟩
theorem iw_2 : ∀ w ∈ wsX20, w ∈ gTbl := cp_2.2.1
theorem cp_3 : CPk 3 RX3 TX3 3 tyX3 := ⟨rfl, fun w h => gTbl_of ((show ∀ w ∈ u_ws RX3 TX3 3, w ∈ lw_tbl by decide +kernel) w h) ((show ∀ w ∈ u_ws RX3 TX3 3, goodWord w = true by decide +kernel) w h), tyX3_ok, nmX3⟩
theorem iw_3 : ∀ w ∈ wsX30, w ∈ gTbl := cp_3.2.1
theorem cp_4 : CPk 4 RX4 TX4 7 tyX4 := ⟨rfl, fun w h => gTbl_of ((show ∀ w ∈ u_ws RX4 TX4 7, w ∈ lw_tbl by decide +kernel) w h) ((show ∀ w ∈ u_ws RX4 TX4 7, goodWord w = true by decide +kernel) w h), tyX4_ok, nmX4⟩
theorem iw_4 : ∀ w ∈ wsX40, w ∈ gTbl := cp_4.2.1
theorem cp_5 : CPk 5 RX5 TX5 4 tyX5 := ⟨rfl, fun w h => gTbl_of ((show ∀ w ∈ u_ws RX5 TX5 4, w ∈ lw_tbl by decide +kernel) w h) ((show ∀ w ∈ u_ws RX5 TX5 4, goodWord w = true by decide +kernel) w h), tyX5_ok, nmX5⟩
theorem iw_5 : ∀ w ∈ wsX50, w ∈ gTbl := cp_5.2.1
theorem cp_6 : CPk 6 RX6 TX6 5 tyX6 := ⟨rfl, fun w h => gTbl_of ((show ∀ w ∈ u_ws RX6 TX6 5, w ∈ lw_tbl by decide +kernel) w h) ((show ∀ w ∈ u_ws RX6 TX6 5, goodWord w = true by decide +kernel) w h), tyX6_ok, nmX6⟩
theorem iw_6 : ∀ w ∈ wsX60, w ∈ gTbl := cp_6.2.1
theorem cp_7 : CPk 7 RX7 TX7 10 tyX7 := ⟨rfl, fun w h => gTbl_of ((show ∀ w ∈ u_ws RX7 TX7 10, w ∈ lw_tbl by decide +kernel) w h) ((show ∀ w ∈ u_ws RX7 TX7 10, goodWord w = true by decide +kernel) w h), tyX7_ok, nmX7⟩
theorem iw_7 : ∀ w ∈ wsX70, w ∈ gTbl := cp_7.2.1
theorem cp_8 : CPk 8 RX8 TX8 33 tyX8 := ⟨rfl, fun w h => gTbl_of ((show ∀ w ∈ u_ws RX8 TX8 33, w ∈ lw_tbl by decide +kernel) w h) ((show ∀ w ∈ u_ws RX8 TX8 33, goodWord w = true by decide +kernel) w h), tyX8_ok, nmX8⟩
theorem iw_8 : ∀ w ∈ wsX80, w ∈ gTbl := cp_8.2.1
end

section
-- ===== PART A: goes FIRST, ahead of the names: the tables' words, and 'selects' of the private methods out of them =====
/-- a private method of a class that the tables say can be made, by its rows of tables_1 -/
def lw_okq (q : MethodName × Nat) : Prop := (q.1.cls ≠ "java/lang/invoke/MethodHandle" ∧ q.1.cls ≠ "java/lang/invoke/VarHandle") ∧ Cond.instantiable q.1.cls q.2 ∈ tables_1 ∧ Cond.privateMethod q.1 ∈ tables_1 ∧ Cond.instanceMethod q.1 ∈ tables_1
theorem lw_p0 : lw_okq (⟨"ShelfFilters$Net", "clearCounts", "()V"⟩, 7) := ⟨⟨by decide +kernel, by decide +kernel⟩, List.mem_of_getElem? (i := 28) (by decide +kernel), List.mem_of_getElem? (i := 220) (by decide +kernel), List.mem_of_getElem? (i := 221) (by decide +kernel)⟩
theorem lw_p1 : lw_okq (⟨"ShelfFilters$Net", "rebuild", "(LShelfFilters$Proxy;)V"⟩, 7) := ⟨⟨by decide +kernel, by decide +kernel⟩, List.mem_of_getElem? (i := 28) (by decide +kernel), List.mem_of_getElem? (i := 244) (by decide +kernel), List.mem_of_getElem? (i := 245) (by decide +kernel)⟩
theorem lw_p2 : lw_okq (⟨"ShelfFilters$Net", "tally", "(LShelfFilters$Proxy;II)V"⟩, 7) := ⟨⟨by decide +kernel, by decide +kernel⟩, List.mem_of_getElem? (i := 28) (by decide +kernel), List.mem_of_getElem? (i := 256) (by decide +kernel), List.mem_of_getElem? (i := 257) (by decide +kernel)⟩
theorem lw_p3 : lw_okq (⟨"ShelfFilters$Text", "readHead", "()Z"⟩, 5) := ⟨⟨by decide +kernel, by decide +kernel⟩, List.mem_of_getElem? (i := 22) (by decide +kernel), List.mem_of_getElem? (i := 327) (by decide +kernel), List.mem_of_getElem? (i := 328) (by decide +kernel)⟩
theorem lw_p4 : lw_okq (⟨"ShelfFilters$Text", "pass", "(I)Z"⟩, 5) := ⟨⟨by decide +kernel, by decide +kernel⟩, List.mem_of_getElem? (i := 22) (by decide +kernel), List.mem_of_getElem? (i := 331) (by decide +kernel), List.mem_of_getElem? (i := 332) (by decide +kernel)⟩
theorem lw_p5 : lw_okq (⟨"ShelfFilters$Text", "letter", "()I"⟩, 5) := ⟨⟨by decide +kernel, by decide +kernel⟩, List.mem_of_getElem? (i := 22) (by decide +kernel), List.mem_of_getElem? (i := 335) (by decide +kernel), List.mem_of_getElem? (i := 336) (by decide +kernel)⟩
theorem lw_p6 : lw_okq (⟨"ShelfFilters$Text", "passDigit", "(II)Z"⟩, 5) := ⟨⟨by decide +kernel, by decide +kernel⟩, List.mem_of_getElem? (i := 22) (by decide +kernel), List.mem_of_getElem? (i := 339) (by decide +kernel), List.mem_of_getElem? (i := 340) (by decide +kernel)⟩
theorem lw_p7 : lw_okq (⟨"ShelfFilters$Text", "readPart", "()Z"⟩, 5) := ⟨⟨by decide +kernel, by decide +kernel⟩, List.mem_of_getElem? (i := 22) (by decide +kernel), List.mem_of_getElem? (i := 344) (by decide +kernel), List.mem_of_getElem? (i := 345) (by decide +kernel)⟩
theorem lw_p8 : lw_okq (⟨"ShelfFilters$Text", "readFamily", "()Z"⟩, 5) := ⟨⟨by decide +kernel, by decide +kernel⟩, List.mem_of_getElem? (i := 22) (by decide +kernel), List.mem_of_getElem? (i := 348) (by decide +kernel), List.mem_of_getElem? (i := 349) (by decide +kernel)⟩
theorem lw_p9 : lw_okq (⟨"ShelfFilters$Text", "readProxy", "()Z"⟩, 5) := ⟨⟨by decide +kernel, by decide +kernel⟩, List.mem_of_getElem? (i := 22) (by decide +kernel), List.mem_of_getElem? (i := 353) (by decide +kernel), List.mem_of_getElem? (i := 354) (by decide +kernel)⟩
theorem lw_p10 : lw_okq (⟨"ShelfFilters$Text", "readShelved", "()Z"⟩, 5) := ⟨⟨by decide +kernel, by decide +kernel⟩, List.mem_of_getElem? (i := 22) (by decide +kernel), List.mem_of_getElem? (i := 374) (by decide +kernel), List.mem_of_getElem? (i := 375) (by decide +kernel)⟩
theorem lw_p11 : lw_okq (⟨"ShelfFilters$Net", "searchOthers", "(II)I"⟩, 7) := ⟨⟨by decide +kernel, by decide +kernel⟩, List.mem_of_getElem? (i := 28) (by decide +kernel), List.mem_of_getElem? (i := 508) (by decide +kernel), List.mem_of_getElem? (i := 509) (by decide +kernel)⟩
theorem lw_p12 : lw_okq (⟨"ShelfFilters$Net", "removePage", "(LShelfFilters$Proxy;I)V"⟩, 7) := ⟨⟨by decide +kernel, by decide +kernel⟩, List.mem_of_getElem? (i := 28) (by decide +kernel), List.mem_of_getElem? (i := 512) (by decide +kernel), List.mem_of_getElem? (i := 513) (by decide +kernel)⟩
theorem lw_p13 : lw_okq (⟨"ShelfFilters$Net", "addPage", "(LShelfFilters$Proxy;I)V"⟩, 7) := ⟨⟨by decide +kernel, by decide +kernel⟩, List.mem_of_getElem? (i := 28) (by decide +kernel), List.mem_of_getElem? (i := 518) (by decide +kernel), List.mem_of_getElem? (i := 519) (by decide +kernel)⟩
theorem lw_p14 : lw_okq (⟨"ShelfFilters", "findCheapest", "(II)I"⟩, 10) := ⟨⟨by decide +kernel, by decide +kernel⟩, List.mem_of_getElem? (i := 14) (by decide +kernel), List.mem_of_getElem? (i := 599) (by decide +kernel), List.mem_of_getElem? (i := 600) (by decide +kernel)⟩
theorem lw_p15 : lw_okq (⟨"ShelfFilters", "triedCost", "(I)I"⟩, 10) := ⟨⟨by decide +kernel, by decide +kernel⟩, List.mem_of_getElem? (i := 14) (by decide +kernel), List.mem_of_getElem? (i := 607) (by decide +kernel), List.mem_of_getElem? (i := 608) (by decide +kernel)⟩
def lw_privs_1 : List (MethodName × Nat) := [(⟨"ShelfFilters$Net", "clearCounts", "()V"⟩, 7), (⟨"ShelfFilters$Net", "rebuild", "(LShelfFilters$Proxy;)V"⟩, 7), (⟨"ShelfFilters$Net", "tally", "(LShelfFilters$Proxy;II)V"⟩, 7), (⟨"ShelfFilters$Text", "readHead", "()Z"⟩, 5), (⟨"ShelfFilters$Text", "pass", "(I)Z"⟩, 5), (⟨"ShelfFilters$Text", "letter", "()I"⟩, 5), (⟨"ShelfFilters$Text", "passDigit", "(II)Z"⟩, 5), (⟨"ShelfFilters$Text", "readPart", "()Z"⟩, 5), (⟨"ShelfFilters$Text", "readFamily", "()Z"⟩, 5), (⟨"ShelfFilters$Text", "readProxy", "()Z"⟩, 5), (⟨"ShelfFilters$Text", "readShelved", "()Z"⟩, 5), (⟨"ShelfFilters$Net", "searchOthers", "(II)I"⟩, 7), (⟨"ShelfFilters$Net", "removePage", "(LShelfFilters$Proxy;I)V"⟩, 7), (⟨"ShelfFilters$Net", "addPage", "(LShelfFilters$Proxy;I)V"⟩, 7), (⟨"ShelfFilters", "findCheapest", "(II)I"⟩, 10), (⟨"ShelfFilters", "triedCost", "(I)I"⟩, 10)]
theorem lw_r1 : ∀ q ∈ lw_privs_1, lw_okq q := List.forall_mem_cons.mpr ⟨lw_p0, List.forall_mem_cons.mpr ⟨lw_p1, List.forall_mem_cons.mpr ⟨lw_p2, List.forall_mem_cons.mpr ⟨lw_p3, List.forall_mem_cons.mpr ⟨lw_p4, List.forall_mem_cons.mpr ⟨lw_p5, List.forall_mem_cons.mpr ⟨lw_p6, List.forall_mem_cons.mpr ⟨lw_p7, List.forall_mem_cons.mpr ⟨lw_p8, List.forall_mem_cons.mpr ⟨lw_p9, List.forall_mem_cons.mpr ⟨lw_p10, List.forall_mem_cons.mpr ⟨lw_p11, List.forall_mem_cons.mpr ⟨lw_p12, List.forall_mem_cons.mpr ⟨lw_p13, List.forall_mem_cons.mpr ⟨lw_p14, List.forall_mem_cons.mpr ⟨lw_p15, fun _ h => absurd h List.not_mem_nil⟩⟩⟩⟩⟩⟩⟩⟩⟩⟩⟩⟩⟩⟩⟩⟩
theorem lw_p16 : lw_okq (⟨"ShelfFilters$Order", "swap", "(II)V"⟩, 2) := ⟨⟨by decide +kernel, by decide +kernel⟩, List.mem_of_getElem? (i := 198) (by decide +kernel), List.mem_of_getElem? (i := 625) (by decide +kernel), List.mem_of_getElem? (i := 626) (by decide +kernel)⟩
theorem lw_p17 : lw_okq (⟨"ShelfFilters$Sightings", "agrees", "(LShelfFilters$Net;I)Z"⟩, 4) := ⟨⟨by decide +kernel, by decide +kernel⟩, List.mem_of_getElem? (i := 177) (by decide +kernel), List.mem_of_getElem? (i := 657) (by decide +kernel), List.mem_of_getElem? (i := 658) (by decide +kernel)⟩
theorem lw_p18 : lw_okq (⟨"ShelfFilters", "wayWeight", "(II)I"⟩, 10) := ⟨⟨by decide +kernel, by decide +kernel⟩, List.mem_of_getElem? (i := 14) (by decide +kernel), List.mem_of_getElem? (i := 687) (by decide +kernel), List.mem_of_getElem? (i := 688) (by decide +kernel)⟩
theorem lw_p19 : lw_okq (⟨"ShelfFiltersModel", "readNet", "()I"⟩, 33) := ⟨⟨by decide +kernel, by decide +kernel⟩, List.mem_of_getElem? (i := 718) (by decide +kernel), List.mem_of_getElem? (i := 840) (by decide +kernel), List.mem_of_getElem? (i := 841) (by decide +kernel)⟩
theorem lw_p20 : lw_okq (⟨"ShelfFiltersModel", "readHead", "()Z"⟩, 33) := ⟨⟨by decide +kernel, by decide +kernel⟩, List.mem_of_getElem? (i := 718) (by decide +kernel), List.mem_of_getElem? (i := 844) (by decide +kernel), List.mem_of_getElem? (i := 845) (by decide +kernel)⟩
theorem lw_p21 : lw_okq (⟨"ShelfFiltersModel", "isFigure", "(II)Z"⟩, 33) := ⟨⟨by decide +kernel, by decide +kernel⟩, List.mem_of_getElem? (i := 718) (by decide +kernel), List.mem_of_getElem? (i := 848) (by decide +kernel), List.mem_of_getElem? (i := 849) (by decide +kernel)⟩
theorem lw_p22 : lw_okq (⟨"ShelfFiltersModel", "taken", "(I)I"⟩, 33) := ⟨⟨by decide +kernel, by decide +kernel⟩, List.mem_of_getElem? (i := 718) (by decide +kernel), List.mem_of_getElem? (i := 852) (by decide +kernel), List.mem_of_getElem? (i := 853) (by decide +kernel)⟩
theorem lw_p23 : lw_okq (⟨"ShelfFiltersModel", "readPart", "()Z"⟩, 33) := ⟨⟨by decide +kernel, by decide +kernel⟩, List.mem_of_getElem? (i := 718) (by decide +kernel), List.mem_of_getElem? (i := 856) (by decide +kernel), List.mem_of_getElem? (i := 857) (by decide +kernel)⟩
theorem lw_p24 : lw_okq (⟨"ShelfFiltersModel", "readFamily", "()Z"⟩, 33) := ⟨⟨by decide +kernel, by decide +kernel⟩, List.mem_of_getElem? (i := 718) (by decide +kernel), List.mem_of_getElem? (i := 860) (by decide +kernel), List.mem_of_getElem? (i := 861) (by decide +kernel)⟩
theorem lw_p25 : lw_okq (⟨"ShelfFiltersModel", "readProxy", "()Z"⟩, 33) := ⟨⟨by decide +kernel, by decide +kernel⟩, List.mem_of_getElem? (i := 718) (by decide +kernel), List.mem_of_getElem? (i := 864) (by decide +kernel), List.mem_of_getElem? (i := 865) (by decide +kernel)⟩
theorem lw_p26 : lw_okq (⟨"ShelfFiltersModel", "readShelf", "()Z"⟩, 33) := ⟨⟨by decide +kernel, by decide +kernel⟩, List.mem_of_getElem? (i := 718) (by decide +kernel), List.mem_of_getElem? (i := 868) (by decide +kernel), List.mem_of_getElem? (i := 869) (by decide +kernel)⟩
theorem lw_p27 : lw_okq (⟨"ShelfFiltersModel", "hasRoom", "(I)Z"⟩, 33) := ⟨⟨by decide +kernel, by decide +kernel⟩, List.mem_of_getElem? (i := 718) (by decide +kernel), List.mem_of_getElem? (i := 872) (by decide +kernel), List.mem_of_getElem? (i := 873) (by decide +kernel)⟩
theorem lw_p28 : lw_okq (⟨"ShelfFiltersModel", "mayCome", "(III)Z"⟩, 33) := ⟨⟨by decide +kernel, by decide +kernel⟩, List.mem_of_getElem? (i := 718) (by decide +kernel), List.mem_of_getElem? (i := 877) (by decide +kernel), List.mem_of_getElem? (i := 878) (by decide +kernel)⟩
theorem lw_p29 : lw_okq (⟨"ShelfFiltersModel", "makeAnew", "([II)V"⟩, 33) := ⟨⟨by decide +kernel, by decide +kernel⟩, List.mem_of_getElem? (i := 718) (by decide +kernel), List.mem_of_getElem? (i := 889) (by decide +kernel), List.mem_of_getElem? (i := 890) (by decide +kernel)⟩
theorem lw_p30 : lw_okq (⟨"ShelfFiltersModel", "tally", "([IIII)V"⟩, 33) := ⟨⟨by decide +kernel, by decide +kernel⟩, List.mem_of_getElem? (i := 718) (by decide +kernel), List.mem_of_getElem? (i := 893) (by decide +kernel), List.mem_of_getElem? (i := 894) (by decide +kernel)⟩
theorem lw_p31 : lw_okq (⟨"ShelfFiltersModel", "hashOf", "(III)I"⟩, 33) := ⟨⟨by decide +kernel, by decide +kernel⟩, List.mem_of_getElem? (i := 718) (by decide +kernel), List.mem_of_getElem? (i := 897) (by decide +kernel), List.mem_of_getElem? (i := 898) (by decide +kernel)⟩
def lw_privs_2 : List (MethodName × Nat) := [(⟨"ShelfFilters$Order", "swap", "(II)V"⟩, 2), (⟨"ShelfFilters$Sightings", "agrees", "(LShelfFilters$Net;I)Z"⟩, 4), (⟨"ShelfFilters", "wayWeight", "(II)I"⟩, 10), (⟨"ShelfFiltersModel", "readNet", "()I"⟩, 33), (⟨"ShelfFiltersModel", "readHead", "()Z"⟩, 33), (⟨"ShelfFiltersModel", "isFigure", "(II)Z"⟩, 33), (⟨"ShelfFiltersModel", "taken", "(I)I"⟩, 33), (⟨"ShelfFiltersModel", "readPart", "()Z"⟩, 33), (⟨"ShelfFiltersModel", "readFamily", "()Z"⟩, 33), (⟨"ShelfFiltersModel", "readProxy", "()Z"⟩, 33), (⟨"ShelfFiltersModel", "readShelf", "()Z"⟩, 33), (⟨"ShelfFiltersModel", "hasRoom", "(I)Z"⟩, 33), (⟨"ShelfFiltersModel", "mayCome", "(III)Z"⟩, 33), (⟨"ShelfFiltersModel", "makeAnew", "([II)V"⟩, 33), (⟨"ShelfFiltersModel", "tally", "([IIII)V"⟩, 33), (⟨"ShelfFiltersModel", "hashOf", "(III)I"⟩, 33)]
theorem lw_r2 : ∀ q ∈ lw_privs_2, lw_okq q := List.forall_mem_cons.mpr ⟨lw_p16, List.forall_mem_cons.mpr ⟨lw_p17, List.forall_mem_cons.mpr ⟨lw_p18, List.forall_mem_cons.mpr ⟨lw_p19, List.forall_mem_cons.mpr ⟨lw_p20, List.forall_mem_cons.mpr ⟨lw_p21, List.forall_mem_cons.mpr ⟨lw_p22, List.forall_mem_cons.mpr ⟨lw_p23, List.forall_mem_cons.mpr ⟨lw_p24, List.forall_mem_cons.mpr ⟨lw_p25, List.forall_mem_cons.mpr ⟨lw_p26, List.forall_mem_cons.mpr ⟨lw_p27, List.forall_mem_cons.mpr ⟨lw_p28, List.forall_mem_cons.mpr ⟨lw_p29, List.forall_mem_cons.mpr ⟨lw_p30, List.forall_mem_cons.mpr ⟨lw_p31, fun _ h => absurd h List.not_mem_nil⟩⟩⟩⟩⟩⟩⟩⟩⟩⟩⟩⟩⟩⟩⟩⟩
theorem lw_p32 : lw_okq (⟨"ShelfFiltersModel", "filterOf", "([II)I"⟩, 33) := ⟨⟨by decide +kernel, by decide +kernel⟩, List.mem_of_getElem? (i := 718) (by decide +kernel), List.mem_of_getElem? (i := 901) (by decide +kernel), List.mem_of_getElem? (i := 902) (by decide +kernel)⟩
theorem lw_p33 : lw_okq (⟨"ShelfFiltersModel", "noProxy", "(I)Z"⟩, 33) := ⟨⟨by decide +kernel, by decide +kernel⟩, List.mem_of_getElem? (i := 718) (by decide +kernel), List.mem_of_getElem? (i := 909) (by decide +kernel), List.mem_of_getElem? (i := 910) (by decide +kernel)⟩
theorem lw_p34 : lw_okq (⟨"ShelfFiltersModel", "falseOnes", "(III)I"⟩, 33) := ⟨⟨by decide +kernel, by decide +kernel⟩, List.mem_of_getElem? (i := 718) (by decide +kernel), List.mem_of_getElem? (i := 916) (by decide +kernel), List.mem_of_getElem? (i := 917) (by decide +kernel)⟩
theorem lw_p35 : lw_okq (⟨"ShelfFiltersModel", "isSaid", "(III)Z"⟩, 33) := ⟨⟨by decide +kernel, by decide +kernel⟩, List.mem_of_getElem? (i := 718) (by decide +kernel), List.mem_of_getElem? (i := 923) (by decide +kernel), List.mem_of_getElem? (i := 924) (by decide +kernel)⟩
theorem lw_p36 : lw_okq (⟨"ShelfFiltersModel", "denied", "(I)I"⟩, 33) := ⟨⟨by decide +kernel, by decide +kernel⟩, List.mem_of_getElem? (i := 718) (by decide +kernel), List.mem_of_getElem? (i := 927) (by decide +kernel), List.mem_of_getElem? (i := 928) (by decide +kernel)⟩
theorem lw_p37 : lw_okq (⟨"ShelfFiltersModel", "summarySays", "([III)Z"⟩, 33) := ⟨⟨by decide +kernel, by decide +kernel⟩, List.mem_of_getElem? (i := 718) (by decide +kernel), List.mem_of_getElem? (i := 931) (by decide +kernel), List.mem_of_getElem? (i := 932) (by decide +kernel)⟩
theorem lw_p38 : lw_okq (⟨"ShelfFiltersModel", "note", "()V"⟩, 33) := ⟨⟨by decide +kernel, by decide +kernel⟩, List.mem_of_getElem? (i := 718) (by decide +kernel), List.mem_of_getElem? (i := 960) (by decide +kernel), List.mem_of_getElem? (i := 961) (by decide +kernel)⟩
theorem lw_p39 : lw_okq (⟨"ShelfFiltersModel", "askOn", "([III)I"⟩, 33) := ⟨⟨by decide +kernel, by decide +kernel⟩, List.mem_of_getElem? (i := 718) (by decide +kernel), List.mem_of_getElem? (i := 964) (by decide +kernel), List.mem_of_getElem? (i := 965) (by decide +kernel)⟩
theorem lw_p40 : lw_okq (⟨"ShelfFiltersModel", "sendDue", "([I)V"⟩, 33) := ⟨⟨by decide +kernel, by decide +kernel⟩, List.mem_of_getElem? (i := 718) (by decide +kernel), List.mem_of_getElem? (i := 971) (by decide +kernel), List.mem_of_getElem? (i := 972) (by decide +kernel)⟩
theorem lw_p41 : lw_okq (⟨"ShelfFiltersModel", "sendOn", "([II)V"⟩, 33) := ⟨⟨by decide +kernel, by decide +kernel⟩, List.mem_of_getElem? (i := 718) (by decide +kernel), List.mem_of_getElem? (i := 975) (by decide +kernel), List.mem_of_getElem? (i := 976) (by decide +kernel)⟩
theorem lw_p42 : lw_okq (⟨"ShelfFiltersModel", "comeTo", "([III)V"⟩, 33) := ⟨⟨by decide +kernel, by decide +kernel⟩, List.mem_of_getElem? (i := 718) (by decide +kernel), List.mem_of_getElem? (i := 979) (by decide +kernel), List.mem_of_getElem? (i := 980) (by decide +kernel)⟩
theorem lw_p43 : lw_okq (⟨"ShelfFiltersModel", "goOut", "([III)V"⟩, 33) := ⟨⟨by decide +kernel, by decide +kernel⟩, List.mem_of_getElem? (i := 718) (by decide +kernel), List.mem_of_getElem? (i := 983) (by decide +kernel), List.mem_of_getElem? (i := 984) (by decide +kernel)⟩
theorem lw_p44 : lw_okq (⟨"ShelfFiltersModel", "dropOn", "([III)V"⟩, 33) := ⟨⟨by decide +kernel, by decide +kernel⟩, List.mem_of_getElem? (i := 718) (by decide +kernel), List.mem_of_getElem? (i := 991) (by decide +kernel), List.mem_of_getElem? (i := 992) (by decide +kernel)⟩
theorem lw_p45 : lw_okq (⟨"ShelfFiltersModel", "useOn", "([II)V"⟩, 33) := ⟨⟨by decide +kernel, by decide +kernel⟩, List.mem_of_getElem? (i := 718) (by decide +kernel), List.mem_of_getElem? (i := 1007) (by decide +kernel), List.mem_of_getElem? (i := 1008) (by decide +kernel)⟩
theorem lw_p46 : lw_okq (⟨"ShelfFiltersModel", "madeBy", "(II)I"⟩, 33) := ⟨⟨by decide +kernel, by decide +kernel⟩, List.mem_of_getElem? (i := 718) (by decide +kernel), List.mem_of_getElem? (i := 1036) (by decide +kernel), List.mem_of_getElem? (i := 1037) (by decide +kernel)⟩
theorem lw_p47 : lw_okq (⟨"ShelfFiltersModel", "layTrial", "()V"⟩, 33) := ⟨⟨by decide +kernel, by decide +kernel⟩, List.mem_of_getElem? (i := 718) (by decide +kernel), List.mem_of_getElem? (i := 1048) (by decide +kernel), List.mem_of_getElem? (i := 1049) (by decide +kernel)⟩
def lw_privs_3 : List (MethodName × Nat) := [(⟨"ShelfFiltersModel", "filterOf", "([II)I"⟩, 33), (⟨"ShelfFiltersModel", "noProxy", "(I)Z"⟩, 33), (⟨"ShelfFiltersModel", "falseOnes", "(III)I"⟩, 33), (⟨"ShelfFiltersModel", "isSaid", "(III)Z"⟩, 33), (⟨"ShelfFiltersModel", "denied", "(I)I"⟩, 33), (⟨"ShelfFiltersModel", "summarySays", "([III)Z"⟩, 33), (⟨"ShelfFiltersModel", "note", "()V"⟩, 33), (⟨"ShelfFiltersModel", "askOn", "([III)I"⟩, 33), (⟨"ShelfFiltersModel", "sendDue", "([I)V"⟩, 33), (⟨"ShelfFiltersModel", "sendOn", "([II)V"⟩, 33), (⟨"ShelfFiltersModel", "comeTo", "([III)V"⟩, 33), (⟨"ShelfFiltersModel", "goOut", "([III)V"⟩, 33), (⟨"ShelfFiltersModel", "dropOn", "([III)V"⟩, 33), (⟨"ShelfFiltersModel", "useOn", "([II)V"⟩, 33), (⟨"ShelfFiltersModel", "madeBy", "(II)I"⟩, 33), (⟨"ShelfFiltersModel", "layTrial", "()V"⟩, 33)]
theorem lw_r3 : ∀ q ∈ lw_privs_3, lw_okq q := List.forall_mem_cons.mpr ⟨lw_p32, List.forall_mem_cons.mpr ⟨lw_p33, List.forall_mem_cons.mpr ⟨lw_p34, List.forall_mem_cons.mpr ⟨lw_p35, List.forall_mem_cons.mpr ⟨lw_p36, List.forall_mem_cons.mpr ⟨lw_p37, List.forall_mem_cons.mpr ⟨lw_p38, List.forall_mem_cons.mpr ⟨lw_p39, List.forall_mem_cons.mpr ⟨lw_p40, List.forall_mem_cons.mpr ⟨lw_p41, List.forall_mem_cons.mpr ⟨lw_p42, List.forall_mem_cons.mpr ⟨lw_p43, List.forall_mem_cons.mpr ⟨lw_p44, List.forall_mem_cons.mpr ⟨lw_p45, List.forall_mem_cons.mpr ⟨lw_p46, List.forall_mem_cons.mpr ⟨lw_p47, fun _ h => absurd h List.not_mem_nil⟩⟩⟩⟩⟩⟩⟩⟩⟩⟩⟩⟩⟩⟩⟩⟩
theorem lw_p48 : lw_okq (⟨"ShelfFiltersModel", "layBest", "(II)V"⟩, 33) := ⟨⟨by decide +kernel, by decide +kernel⟩, List.mem_of_getElem? (i := 718) (by decide +kernel), List.mem_of_getElem? (i := 1060) (by decide +kernel), List.mem_of_getElem? (i := 1061) (by decide +kernel)⟩
theorem lw_p49 : lw_okq (⟨"ShelfFiltersModel", "layOrder", "(III)V"⟩, 33) := ⟨⟨by decide +kernel, by decide +kernel⟩, List.mem_of_getElem? (i := 718) (by decide +kernel), List.mem_of_getElem? (i := 1064) (by decide +kernel), List.mem_of_getElem? (i := 1065) (by decide +kernel)⟩
theorem lw_p50 : lw_okq (⟨"ShelfFiltersModel", "does", "(I)Z"⟩, 33) := ⟨⟨by decide +kernel, by decide +kernel⟩, List.mem_of_getElem? (i := 718) (by decide +kernel), List.mem_of_getElem? (i := 1076) (by decide +kernel), List.mem_of_getElem? (i := 1077) (by decide +kernel)⟩
theorem lw_p51 : lw_okq (⟨"ShelfFiltersModel", "isSo", "(II)Z"⟩, 33) := ⟨⟨by decide +kernel, by decide +kernel⟩, List.mem_of_getElem? (i := 718) (by decide +kernel), List.mem_of_getElem? (i := 1093) (by decide +kernel), List.mem_of_getElem? (i := 1094) (by decide +kernel)⟩
theorem lw_p52 : lw_okq (⟨"ShelfFiltersModel", "hadBy", "(I)I"⟩, 33) := ⟨⟨by decide +kernel, by decide +kernel⟩, List.mem_of_getElem? (i := 718) (by decide +kernel), List.mem_of_getElem? (i := 1104) (by decide +kernel), List.mem_of_getElem? (i := 1105) (by decide +kernel)⟩
theorem lw_p53 : lw_okq (⟨"ShelfFiltersModel", "isRight", "(III)Z"⟩, 33) := ⟨⟨by decide +kernel, by decide +kernel⟩, List.mem_of_getElem? (i := 718) (by decide +kernel), List.mem_of_getElem? (i := 1119) (by decide +kernel), List.mem_of_getElem? (i := 1120) (by decide +kernel)⟩
theorem lw_p54 : lw_okq (⟨"ShelfFiltersModel", "onShelves", "()I"⟩, 33) := ⟨⟨by decide +kernel, by decide +kernel⟩, List.mem_of_getElem? (i := 718) (by decide +kernel), List.mem_of_getElem? (i := 1146) (by decide +kernel), List.mem_of_getElem? (i := 1147) (by decide +kernel)⟩
def lw_privs_4 : List (MethodName × Nat) := [(⟨"ShelfFiltersModel", "layBest", "(II)V"⟩, 33), (⟨"ShelfFiltersModel", "layOrder", "(III)V"⟩, 33), (⟨"ShelfFiltersModel", "does", "(I)Z"⟩, 33), (⟨"ShelfFiltersModel", "isSo", "(II)Z"⟩, 33), (⟨"ShelfFiltersModel", "hadBy", "(I)I"⟩, 33), (⟨"ShelfFiltersModel", "isRight", "(III)Z"⟩, 33), (⟨"ShelfFiltersModel", "onShelves", "()I"⟩, 33)]
theorem lw_r4 : ∀ q ∈ lw_privs_4, lw_okq q := List.forall_mem_cons.mpr ⟨lw_p48, List.forall_mem_cons.mpr ⟨lw_p49, List.forall_mem_cons.mpr ⟨lw_p50, List.forall_mem_cons.mpr ⟨lw_p51, List.forall_mem_cons.mpr ⟨lw_p52, List.forall_mem_cons.mpr ⟨lw_p53, List.forall_mem_cons.mpr ⟨lw_p54, fun _ h => absurd h List.not_mem_nil⟩⟩⟩⟩⟩⟩⟩
def lw_privs : List (MethodName × Nat) := lw_privs_1 ++ (lw_privs_2 ++ (lw_privs_3 ++ (lw_privs_4)))
def lw_tbl : List Cond := k2_sels lw_privs ++ tables_1
theorem lw_privs_ok : ∀ q ∈ lw_privs, lw_okq q := by
  show ∀ q ∈ lw_privs_1 ++ (lw_privs_2 ++ (lw_privs_3 ++ (lw_privs_4))), lw_okq q
  exact List.forall_mem_append.mpr ⟨lw_r1, List.forall_mem_append.mpr ⟨lw_r2, List.forall_mem_append.mpr ⟨lw_r3, lw_r4⟩⟩⟩
/-- the streams that the claim lets the run draw from -/
abbrev lw_cs : List Choice := [Jvm.Choice.named "NaN.bits"]
theorem lw_bits : nanBits ∈ lw_cs := by first | decide | exact List.mem_cons_self | simp [lw_cs, nanBits]
-- ===== end of PART A; then your names; then what follows =====
end
section
def RX0 : String := "ShelfFilters$Hashing"
def TX0 : u_T := fun k => match k with
  | 0 => ("ShelfFilters$Hashing", "cells", "I", false)
  | 1 => ("ShelfFilters$Hashing", "functions", "I", false)
  | 2 => ("ShelfFilters$Hashing", "families", "I", false)
  | 3 => ("ShelfFilters$Hashing", "present", "I", false)
  | 4 => ("ShelfFilters$Hashing", "factors", "[I", true)
  | _ => ("ShelfFilters$Hashing", "shifts", "[I", true)
def tyX0 : Nat → FieldType := fun k => match k with
  | 0 => .int
  | 1 => .int
  | 2 => .int
  | 3 => .int
  | 4 => .array .int
  | _ => .array .int
abbrev wsX00 : List Cond := u_ws RX0 TX0 6
theorem nmX0 : ∀ a, a < 6 → ∀ b, b < 6 → a ≠ b → (TX0 a).2.1 ≠ (TX0 b).2.1 := by decide +kernel
theorem tyX0_ok : ∀ k, k < 6 → parseFieldDescriptor (TX0 k).2.2.1 = some (tyX0 k) := by decide +kernel
abbrev cX0_init : ByteArray := prog_2_method_1_code
def yX0_init : MethodName := ⟨RX0, "<init>", "()V"⟩
abbrev cX0_take : ByteArray := prog_2_method_2_code
def yX0_take : MethodName := ⟨RX0, "take", "(LShelfFilters$Hashing;)V"⟩
abbrev cX0_begin : ByteArray := prog_2_method_3_code
def yX0_begin : MethodName := ⟨RX0, "begin", "(II)V"⟩
abbrev cX0_addFamily : ByteArray := prog_2_method_4_code
def yX0_addFamily : MethodName := ⟨RX0, "addFamily", "(II)V"⟩
abbrev cX0_isFamily : ByteArray := prog_2_method_5_code
def yX0_isFamily : MethodName := ⟨RX0, "isFamily", "(I)Z"⟩
abbrev cX0_cell : ByteArray := prog_2_method_6_code
def yX0_cell : MethodName := ⟨RX0, "cell", "(III)I"⟩
abbrev cX0_cellSet : ByteArray := prog_2_method_7_code
def yX0_cellSet : MethodName := ⟨RX0, "cellSet", "(II)I"⟩
abbrev cX0_contains : ByteArray := prog_2_method_8_code
def yX0_contains : MethodName := ⟨RX0, "contains", "(III)Z"⟩
abbrev cX0_pagesIn : ByteArray := prog_2_method_9_code
def yX0_pagesIn : MethodName := ⟨RX0, "pagesIn", "(II)I"⟩
def RX1 : String := "ShelfFilters$Net"
def TX1 : u_T := fun k => match k with
  | 0 => ("ShelfFilters$Net", "hashing", "LShelfFilters$Hashing;", true)
  | 1 => ("ShelfFilters$Net", "proxies", "[LShelfFilters$Proxy;", true)
  | 2 => ("ShelfFilters$Net", "size", "I", false)
  | 3 => ("ShelfFilters$Net", "requests", "I", false)
  | 4 => ("ShelfFilters$Net", "falseHits", "I", false)
  | 5 => ("ShelfFilters$Net", "fetches", "I", false)
  | _ => ("ShelfFilters$Net", "messages", "I", false)
def tyX1 : Nat → FieldType := fun k => match k with
  | 0 => .object "ShelfFilters$Hashing"
  | 1 => .array (.object "ShelfFilters$Proxy")
  | 2 => .int
  | 3 => .int
  | 4 => .int
  | 5 => .int
  | _ => .int
abbrev wsX10 : List Cond := u_ws RX1 TX1 7
theorem nmX1 : ∀ a, a < 7 → ∀ b, b < 7 → a ≠ b → (TX1 a).2.1 ≠ (TX1 b).2.1 := by decide +kernel
theorem tyX1_ok : ∀ k, k < 7 → parseFieldDescriptor (TX1 k).2.2.1 = some (tyX1 k) := by decide +kernel
abbrev cX1_init : ByteArray := prog_3_method_1_code
def yX1_init : MethodName := ⟨RX1, "<init>", "()V"⟩
abbrev cX1_take : ByteArray := prog_3_method_2_code
def yX1_take : MethodName := ⟨RX1, "take", "(LShelfFilters$Net;)V"⟩
abbrev cX1_begin : ByteArray := prog_3_method_3_code
def yX1_begin : MethodName := ⟨RX1, "begin", "(II)V"⟩
abbrev cX1_clearCounts : ByteArray := prog_3_method_4_code
def yX1_clearCounts : MethodName := ⟨RX1, "clearCounts", "()V"⟩
abbrev cX1_addProxy : ByteArray := prog_3_method_5_code
def yX1_addProxy : MethodName := ⟨RX1, "addProxy", "(II)V"⟩
abbrev cX1_complete : ByteArray := prog_3_method_6_code
def yX1_complete : MethodName := ⟨RX1, "complete", "()V"⟩
abbrev cX1_proxyAt : ByteArray := prog_3_method_7_code
def yX1_proxyAt : MethodName := ⟨RX1, "proxyAt", "(I)LShelfFilters$Proxy;"⟩
abbrev cX1_anyRoom : ByteArray := prog_3_method_8_code
def yX1_anyRoom : MethodName := ⟨RX1, "anyRoom", "()Z"⟩
abbrev cX1_cost : ByteArray := prog_3_method_9_code
def yX1_cost : MethodName := ⟨RX1, "cost", "()I"⟩
abbrev cX1_allPages : ByteArray := prog_3_method_10_code
def yX1_allPages : MethodName := ⟨RX1, "allPages", "()I"⟩
abbrev cX1_holders : ByteArray := prog_3_method_11_code
def yX1_holders : MethodName := ⟨RX1, "holders", "(I)I"⟩
abbrev cX1_isSo : ByteArray := prog_3_method_12_code
def yX1_isSo : MethodName := ⟨RX1, "isSo", "(LShelfFilters$Proxy;II)Z"⟩
abbrev cX1_claimed : ByteArray := prog_3_method_13_code
def yX1_claimed : MethodName := ⟨RX1, "claimed", "(LShelfFilters$Proxy;)I"⟩
abbrev cX1_wrongPages : ByteArray := prog_3_method_14_code
def yX1_wrongPages : MethodName := ⟨RX1, "wrongPages", "(LShelfFilters$Proxy;I)I"⟩
abbrev cX1_request : ByteArray := prog_3_method_15_code
def yX1_request : MethodName := ⟨RX1, "request", "(II)I"⟩
abbrev cX1_searchOthers : ByteArray := prog_3_method_16_code
def yX1_searchOthers : MethodName := ⟨RX1, "searchOthers", "(II)I"⟩
abbrev cX1_addPage : ByteArray := prog_3_method_17_code
def yX1_addPage : MethodName := ⟨RX1, "addPage", "(LShelfFilters$Proxy;I)V"⟩
abbrev cX1_removePage : ByteArray := prog_3_method_18_code
def yX1_removePage : MethodName := ⟨RX1, "removePage", "(LShelfFilters$Proxy;I)V"⟩
abbrev cX1_tally : ByteArray := prog_3_method_19_code
def yX1_tally : MethodName := ⟨RX1, "tally", "(LShelfFilters$Proxy;II)V"⟩
abbrev cX1_discard : ByteArray := prog_3_method_20_code
def yX1_discard : MethodName := ⟨RX1, "discard", "(LShelfFilters$Proxy;I)Z"⟩
abbrev cX1_spread : ByteArray := prog_3_method_21_code
def yX1_spread : MethodName := ⟨RX1, "spread", "(LShelfFilters$Proxy;)Z"⟩
abbrev cX1_spreadDue : ByteArray := prog_3_method_22_code
def yX1_spreadDue : MethodName := ⟨RX1, "spreadDue", "()V"⟩
abbrev cX1_adopt : ByteArray := prog_3_method_23_code
def yX1_adopt : MethodName := ⟨RX1, "adopt", "(I)Z"⟩
abbrev cX1_rebuild : ByteArray := prog_3_method_24_code
def yX1_rebuild : MethodName := ⟨RX1, "rebuild", "(LShelfFilters$Proxy;)V"⟩
abbrev cX1_servesWell : ByteArray := prog_3_method_25_code
def yX1_servesWell : MethodName := ⟨RX1, "servesWell", "(III)Z"⟩
def RX2 : String := "ShelfFilters$Order"
def TX2 : u_T := fun k => match k with
  | 0 => ("ShelfFilters$Order", "size", "I", false)
  | _ => ("ShelfFilters$Order", "pages", "[I", true)
def tyX2 : Nat → FieldType := fun k => match k with
  | 0 => .int
  | _ => .array .int
abbrev wsX20 : List Cond := u_ws RX2 TX2 2
theorem nmX2 : ∀ a, a < 2 → ∀ b, b < 2 → a ≠ b → (TX2 a).2.1 ≠ (TX2 b).2.1 := by decide +kernel
theorem tyX2_ok : ∀ k, k < 2 → parseFieldDescriptor (TX2 k).2.2.1 = some (tyX2 k) := by decide +kernel
abbrev cX2_init : ByteArray := prog_4_method_1_code
def yX2_init : MethodName := ⟨RX2, "<init>", "()V"⟩
abbrev cX2_take : ByteArray := prog_4_method_2_code
def yX2_take : MethodName := ⟨RX2, "take", "(LShelfFilters$Order;)V"⟩
abbrev cX2_pageAt : ByteArray := prog_4_method_3_code
def yX2_pageAt : MethodName := ⟨RX2, "pageAt", "(I)I"⟩
abbrev cX2_begin : ByteArray := prog_4_method_4_code
def yX2_begin : MethodName := ⟨RX2, "begin", "(I)V"⟩
abbrev cX2_advance : ByteArray := prog_4_method_5_code
def yX2_advance : MethodName := ⟨RX2, "advance", "()Z"⟩
abbrev cX2_swap : ByteArray := prog_4_method_6_code
def yX2_swap : MethodName := ⟨RX2, "swap", "(II)V"⟩
def RX3 : String := "ShelfFilters$Past"
def TX3 : u_T := fun k => match k with
  | 0 => ("ShelfFilters$Past", "nets", "[LShelfFilters$Net;", true)
  | 1 => ("ShelfFilters$Past", "next", "I", false)
  | _ => ("ShelfFilters$Past", "size", "I", false)
def tyX3 : Nat → FieldType := fun k => match k with
  | 0 => .array (.object "ShelfFilters$Net")
  | 1 => .int
  | _ => .int
abbrev wsX30 : List Cond := u_ws RX3 TX3 3
theorem nmX3 : ∀ a, a < 3 → ∀ b, b < 3 → a ≠ b → (TX3 a).2.1 ≠ (TX3 b).2.1 := by decide +kernel
theorem tyX3_ok : ∀ k, k < 3 → parseFieldDescriptor (TX3 k).2.2.1 = some (tyX3 k) := by decide +kernel
abbrev cX3_init : ByteArray := prog_5_method_1_code
def yX3_init : MethodName := ⟨RX3, "<init>", "()V"⟩
abbrev cX3_forget : ByteArray := prog_5_method_2_code
def yX3_forget : MethodName := ⟨RX3, "forget", "()V"⟩
abbrev cX3_record : ByteArray := prog_5_method_3_code
def yX3_record : MethodName := ⟨RX3, "record", "(LShelfFilters$Net;)V"⟩
abbrev cX3_restore : ByteArray := prog_5_method_4_code
def yX3_restore : MethodName := ⟨RX3, "restore", "(LShelfFilters$Net;)Z"⟩
def RX4 : String := "ShelfFilters$Proxy"
def TX4 : u_T := fun k => match k with
  | 0 => ("ShelfFilters$Proxy", "room", "I", false)
  | 1 => ("ShelfFilters$Proxy", "limit", "I", false)
  | 2 => ("ShelfFilters$Proxy", "pages", "I", false)
  | 3 => ("ShelfFilters$Proxy", "changes", "I", false)
  | 4 => ("ShelfFilters$Proxy", "summary", "I", false)
  | 5 => ("ShelfFilters$Proxy", "shelf", "[I", true)
  | _ => ("ShelfFilters$Proxy", "counters", "[I", true)
def tyX4 : Nat → FieldType := fun k => match k with
  | 0 => .int
  | 1 => .int
  | 2 => .int
  | 3 => .int
  | 4 => .int
  | 5 => .array .int
  | _ => .array .int
abbrev wsX40 : List Cond := u_ws RX4 TX4 7
theorem nmX4 : ∀ a, a < 7 → ∀ b, b < 7 → a ≠ b → (TX4 a).2.1 ≠ (TX4 b).2.1 := by decide +kernel
theorem tyX4_ok : ∀ k, k < 7 → parseFieldDescriptor (TX4 k).2.2.1 = some (tyX4 k) := by decide +kernel
abbrev cX4_init : ByteArray := prog_6_method_1_code
def yX4_init : MethodName := ⟨RX4, "<init>", "()V"⟩
abbrev cX4_take : ByteArray := prog_6_method_2_code
def yX4_take : MethodName := ⟨RX4, "take", "(LShelfFilters$Proxy;)V"⟩
abbrev cX4_begin : ByteArray := prog_6_method_3_code
def yX4_begin : MethodName := ⟨RX4, "begin", "(II)V"⟩
abbrev cX4_clearCounters : ByteArray := prog_6_method_4_code
def yX4_clearCounters : MethodName := ⟨RX4, "clearCounters", "()V"⟩
abbrev cX4_hasRoom : ByteArray := prog_6_method_5_code
def yX4_hasRoom : MethodName := ⟨RX4, "hasRoom", "()Z"⟩
abbrev cX4_pageAt : ByteArray := prog_6_method_6_code
def yX4_pageAt : MethodName := ⟨RX4, "pageAt", "(I)I"⟩
abbrev cX4_placeOf : ByteArray := prog_6_method_7_code
def yX4_placeOf : MethodName := ⟨RX4, "placeOf", "(I)I"⟩
abbrev cX4_has : ByteArray := prog_6_method_8_code
def yX4_has : MethodName := ⟨RX4, "has", "(I)Z"⟩
abbrev cX4_shelfSet : ByteArray := prog_6_method_9_code
def yX4_shelfSet : MethodName := ⟨RX4, "shelfSet", "()I"⟩
abbrev cX4_addOldest : ByteArray := prog_6_method_10_code
def yX4_addOldest : MethodName := ⟨RX4, "addOldest", "(I)V"⟩
abbrev cX4_addNewest : ByteArray := prog_6_method_11_code
def yX4_addNewest : MethodName := ⟨RX4, "addNewest", "(I)V"⟩
abbrev cX4_removeAt : ByteArray := prog_6_method_12_code
def yX4_removeAt : MethodName := ⟨RX4, "removeAt", "(I)V"⟩
abbrev cX4_renew : ByteArray := prog_6_method_13_code
def yX4_renew : MethodName := ⟨RX4, "renew", "(I)V"⟩
abbrev cX4_move : ByteArray := prog_6_method_14_code
def yX4_move : MethodName := ⟨RX4, "move", "(II)V"⟩
abbrev cX4_filterSet : ByteArray := prog_6_method_15_code
def yX4_filterSet : MethodName := ⟨RX4, "filterSet", "()I"⟩
def RX5 : String := "ShelfFilters$Sightings"
def TX5 : u_T := fun k => match k with
  | 0 => ("ShelfFilters$Sightings", "proxies", "[I", true)
  | 1 => ("ShelfFilters$Sightings", "sorts", "[I", true)
  | 2 => ("ShelfFilters$Sightings", "truths", "[Z", true)
  | _ => ("ShelfFilters$Sightings", "size", "I", false)
def tyX5 : Nat → FieldType := fun k => match k with
  | 0 => .array .int
  | 1 => .array .int
  | 2 => .array .boolean
  | _ => .int
abbrev wsX50 : List Cond := u_ws RX5 TX5 4
theorem nmX5 : ∀ a, a < 4 → ∀ b, b < 4 → a ≠ b → (TX5 a).2.1 ≠ (TX5 b).2.1 := by decide +kernel
theorem tyX5_ok : ∀ k, k < 4 → parseFieldDescriptor (TX5 k).2.2.1 = some (tyX5 k) := by decide +kernel
abbrev cX5_init : ByteArray := prog_7_method_1_code
def yX5_init : MethodName := ⟨RX5, "<init>", "()V"⟩
abbrev cX5_add : ByteArray := prog_7_method_2_code
def yX5_add : MethodName := ⟨RX5, "add", "(IIZ)Z"⟩
abbrev cX5_agreeing : ByteArray := prog_7_method_3_code
def yX5_agreeing : MethodName := ⟨RX5, "agreeing", "(LShelfFilters$Net;)I"⟩
abbrev cX5_agrees : ByteArray := prog_7_method_4_code
def yX5_agrees : MethodName := ⟨RX5, "agrees", "(LShelfFilters$Net;I)Z"⟩
def RX6 : String := "ShelfFilters$Text"
def TX6 : u_T := fun k => match k with
  | 0 => ("ShelfFilters$Text", "length", "I", false)
  | 1 => ("ShelfFilters$Text", "net", "LShelfFilters$Net;", true)
  | 2 => ("ShelfFilters$Text", "letters", "[I", true)
  | 3 => ("ShelfFilters$Text", "at", "I", false)
  | _ => ("ShelfFilters$Text", "digit", "I", false)
def tyX6 : Nat → FieldType := fun k => match k with
  | 0 => .int
  | 1 => .object "ShelfFilters$Net"
  | 2 => .array .int
  | 3 => .int
  | _ => .int
abbrev wsX60 : List Cond := u_ws RX6 TX6 5
theorem nmX6 : ∀ a, a < 5 → ∀ b, b < 5 → a ≠ b → (TX6 a).2.1 ≠ (TX6 b).2.1 := by decide +kernel
theorem tyX6_ok : ∀ k, k < 5 → parseFieldDescriptor (TX6 k).2.2.1 = some (tyX6 k) := by decide +kernel
abbrev cX6_init : ByteArray := prog_8_method_1_code
def yX6_init : MethodName := ⟨RX6, "<init>", "()V"⟩
abbrev cX6_append : ByteArray := prog_8_method_2_code
def yX6_append : MethodName := ⟨RX6, "append", "(I)Z"⟩
abbrev cX6_read : ByteArray := prog_8_method_3_code
def yX6_read : MethodName := ⟨RX6, "read", "()I"⟩
abbrev cX6_letter : ByteArray := prog_8_method_4_code
def yX6_letter : MethodName := ⟨RX6, "letter", "()I"⟩
abbrev cX6_pass : ByteArray := prog_8_method_5_code
def yX6_pass : MethodName := ⟨RX6, "pass", "(I)Z"⟩
abbrev cX6_passDigit : ByteArray := prog_8_method_6_code
def yX6_passDigit : MethodName := ⟨RX6, "passDigit", "(II)Z"⟩
abbrev cX6_readHead : ByteArray := prog_8_method_7_code
def yX6_readHead : MethodName := ⟨RX6, "readHead", "()Z"⟩
abbrev cX6_readPart : ByteArray := prog_8_method_8_code
def yX6_readPart : MethodName := ⟨RX6, "readPart", "()Z"⟩
abbrev cX6_readFamily : ByteArray := prog_8_method_9_code
def yX6_readFamily : MethodName := ⟨RX6, "readFamily", "()Z"⟩
abbrev cX6_readProxy : ByteArray := prog_8_method_10_code
def yX6_readProxy : MethodName := ⟨RX6, "readProxy", "()Z"⟩
abbrev cX6_readShelved : ByteArray := prog_8_method_11_code
def yX6_readShelved : MethodName := ⟨RX6, "readShelved", "()Z"⟩
abbrev cX6_mayBegin : ByteArray := prog_8_method_12_code
def yX6_mayBegin : MethodName := ⟨RX6, "mayBegin", "(LShelfFilters$Proxy;I)Z"⟩
def RX7 : String := "ShelfFilters"
def TX7 : u_T := fun k => match k with
  | 0 => ("ShelfFilters", "text", "LShelfFilters$Text;", true)
  | 1 => ("ShelfFilters", "current", "LShelfFilters$Net;", true)
  | 2 => ("ShelfFilters", "trial", "LShelfFilters$Net;", true)
  | 3 => ("ShelfFilters", "past", "LShelfFilters$Past;", true)
  | 4 => ("ShelfFilters", "slots", "[LShelfFilters$Net;", true)
  | 5 => ("ShelfFilters", "filled", "[Z", true)
  | 6 => ("ShelfFilters", "sightings", "LShelfFilters$Sightings;", true)
  | 7 => ("ShelfFilters", "tried", "LShelfFilters$Order;", true)
  | 8 => ("ShelfFilters", "cheapest", "LShelfFilters$Order;", true)
  | _ => ("ShelfFilters", "chance", "J", false)
def tyX7 : Nat → FieldType := fun k => match k with
  | 0 => .object "ShelfFilters$Text"
  | 1 => .object "ShelfFilters$Net"
  | 2 => .object "ShelfFilters$Net"
  | 3 => .object "ShelfFilters$Past"
  | 4 => .array (.object "ShelfFilters$Net")
  | 5 => .array .boolean
  | 6 => .object "ShelfFilters$Sightings"
  | 7 => .object "ShelfFilters$Order"
  | 8 => .object "ShelfFilters$Order"
  | _ => .long
abbrev wsX70 : List Cond := u_ws RX7 TX7 10
theorem nmX7 : ∀ a, a < 10 → ∀ b, b < 10 → a ≠ b → (TX7 a).2.1 ≠ (TX7 b).2.1 := by decide +kernel
theorem tyX7_ok : ∀ k, k < 10 → parseFieldDescriptor (TX7 k).2.2.1 = some (tyX7 k) := by decide +kernel
abbrev cX7_init : ByteArray := prog_1_method_1_code
def yX7_init : MethodName := ⟨RX7, "<init>", "()V"⟩
abbrev cX7_write : ByteArray := prog_1_method_2_code
def yX7_write : MethodName := ⟨RX7, "write", "(I)I"⟩
abbrev cX7_wipe : ByteArray := prog_1_method_3_code
def yX7_wipe : MethodName := ⟨RX7, "wipe", "()I"⟩
abbrev cX7_fault : ByteArray := prog_1_method_4_code
def yX7_fault : MethodName := ⟨RX7, "fault", "()I"⟩
abbrev cX7_net : ByteArray := prog_1_method_5_code
def yX7_net : MethodName := ⟨RX7, "net", "()I"⟩
abbrev cX7_proxy : ByteArray := prog_1_method_6_code
def yX7_proxy : MethodName := ⟨RX7, "proxy", "(II)I"⟩
abbrev cX7_page : ByteArray := prog_1_method_7_code
def yX7_page : MethodName := ⟨RX7, "page", "(II)I"⟩
abbrev cX7_counter : ByteArray := prog_1_method_8_code
def yX7_counter : MethodName := ⟨RX7, "counter", "(II)I"⟩
abbrev cX7_hash : ByteArray := prog_1_method_9_code
def yX7_hash : MethodName := ⟨RX7, "hash", "(III)I"⟩
abbrev cX7_says : ByteArray := prog_1_method_10_code
def yX7_says : MethodName := ⟨RX7, "says", "(IIZ)I"⟩
abbrev cX7_ask : ByteArray := prog_1_method_11_code
def yX7_ask : MethodName := ⟨RX7, "ask", "(II)I"⟩
abbrev cX7_drop : ByteArray := prog_1_method_12_code
def yX7_drop : MethodName := ⟨RX7, "drop", "(II)I"⟩
abbrev cX7_send : ByteArray := prog_1_method_13_code
def yX7_send : MethodName := ⟨RX7, "send", "(I)I"⟩
abbrev cX7_threshold : ByteArray := prog_1_method_14_code
def yX7_threshold : MethodName := ⟨RX7, "threshold", "(II)I"⟩
abbrev cX7_use : ByteArray := prog_1_method_15_code
def yX7_use : MethodName := ⟨RX7, "use", "(I)I"⟩
abbrev cX7_undo : ByteArray := prog_1_method_16_code
def yX7_undo : MethodName := ⟨RX7, "undo", "()I"⟩
abbrev cX7_weight : ByteArray := prog_1_method_17_code
def yX7_weight : MethodName := ⟨RX7, "weight", "(I)I"⟩
abbrev cX7_best : ByteArray := prog_1_method_18_code
def yX7_best : MethodName := ⟨RX7, "best", "(II)I"⟩
abbrev cX7_plan : ByteArray := prog_1_method_19_code
def yX7_plan : MethodName := ⟨RX7, "plan", "(III)I"⟩
abbrev cX7_order : ByteArray := prog_1_method_20_code
def yX7_order : MethodName := ⟨RX7, "order", "(III)I"⟩
abbrev cX7_judge : ByteArray := prog_1_method_21_code
def yX7_judge : MethodName := ⟨RX7, "judge", "(IJ)I"⟩
abbrev cX7_see : ByteArray := prog_1_method_22_code
def yX7_see : MethodName := ⟨RX7, "see", "(III)I"⟩
abbrev cX7_unsee : ByteArray := prog_1_method_23_code
def yX7_unsee : MethodName := ⟨RX7, "unsee", "()I"⟩
abbrev cX7_which : ByteArray := prog_1_method_24_code
def yX7_which : MethodName := ⟨RX7, "which", "()I"⟩
abbrev cX7_share : ByteArray := prog_1_method_25_code
def yX7_share : MethodName := ⟨RX7, "share", "(IZ)I"⟩
abbrev cX7_lost : ByteArray := prog_1_method_26_code
def yX7_lost : MethodName := ⟨RX7, "lost", "(IIIZ)I"⟩
abbrev cX7_seed : ByteArray := prog_1_method_27_code
def yX7_seed : MethodName := ⟨RX7, "seed", "(J)J"⟩
abbrev cX7_drawn : ByteArray := prog_1_method_28_code
def yX7_drawn : MethodName := ⟨RX7, "drawn", "(I)I"⟩
abbrev cX7_keep : ByteArray := prog_1_method_29_code
def yX7_keep : MethodName := ⟨RX7, "keep", "(I)I"⟩
abbrev cX7_again : ByteArray := prog_1_method_30_code
def yX7_again : MethodName := ⟨RX7, "again", "(I)I"⟩
abbrev cX7_count : ByteArray := prog_1_method_31_code
def yX7_count : MethodName := ⟨RX7, "count", "(I)I"⟩
abbrev cX7_isPage : ByteArray := prog_1_method_32_code
def yX7_isPage : MethodName := ⟨RX7, "isPage", "(I)Z"⟩
abbrev cX7_netAt : ByteArray := prog_1_method_33_code
def yX7_netAt : MethodName := ⟨RX7, "netAt", "([LShelfFilters$Net;I)LShelfFilters$Net;"⟩
abbrev cX7_copyRow : ByteArray := prog_1_method_34_code
def yX7_copyRow : MethodName := ⟨RX7, "copyRow", "([I[I)V"⟩
abbrev cX7_powerOfTen : ByteArray := prog_1_method_35_code
def yX7_powerOfTen : MethodName := ⟨RX7, "powerOfTen", "(I)J"⟩
abbrev cX7_floatBits : ByteArray := prog_1_method_36_code
def yX7_floatBits : MethodName := ⟨RX7, "floatBits", "(F)I"⟩
abbrev cX7_ofFraction : ByteArray := prog_1_method_37_code
def yX7_ofFraction : MethodName := ⟨RX7, "ofFraction", "(IIZ)I"⟩
abbrev cX7_commonDivisor : ByteArray := prog_1_method_38_code
def yX7_commonDivisor : MethodName := ⟨RX7, "commonDivisor", "(II)I"⟩
abbrev cX7_wayWeight : ByteArray := prog_1_method_39_code
def yX7_wayWeight : MethodName := ⟨RX7, "wayWeight", "(II)I"⟩
abbrev cX7_findCheapest : ByteArray := prog_1_method_40_code
def yX7_findCheapest : MethodName := ⟨RX7, "findCheapest", "(II)I"⟩
abbrev cX7_triedCost : ByteArray := prog_1_method_41_code
def yX7_triedCost : MethodName := ⟨RX7, "triedCost", "(I)I"⟩
abbrev cX7_holds : ByteArray := prog_1_method_42_code
def yX7_holds : MethodName := ⟨RX7, "holds", "(LShelfFilters$Net;I)Z"⟩
def RX8 : String := "ShelfFiltersModel"
def TX8 : u_T := fun k => match k with
  | 0 => ("ShelfFiltersModel", "thrown", "I", false)
  | 1 => ("ShelfFiltersModel", "text", "[I", true)
  | 2 => ("ShelfFiltersModel", "textSize", "I", false)
  | 3 => ("ShelfFiltersModel", "place", "I", false)
  | 4 => ("ShelfFiltersModel", "cells", "I", false)
  | 5 => ("ShelfFiltersModel", "hashes", "I", false)
  | 6 => ("ShelfFiltersModel", "families", "I", false)
  | 7 => ("ShelfFiltersModel", "a", "[I", true)
  | 8 => ("ShelfFiltersModel", "b", "[I", true)
  | 9 => ("ShelfFiltersModel", "proxies", "I", false)
  | 10 => ("ShelfFiltersModel", "room", "[I", true)
  | 11 => ("ShelfFiltersModel", "readCells", "I", false)
  | 12 => ("ShelfFiltersModel", "readHashes", "I", false)
  | 13 => ("ShelfFiltersModel", "readFamilies", "I", false)
  | 14 => ("ShelfFiltersModel", "readA", "[I", true)
  | 15 => ("ShelfFiltersModel", "readB", "[I", true)
  | 16 => ("ShelfFiltersModel", "readProxies", "I", false)
  | 17 => ("ShelfFiltersModel", "readRoom", "[I", true)
  | 18 => ("ShelfFiltersModel", "readPage", "[I", true)
  | 19 => ("ShelfFiltersModel", "page", "[I", true)
  | 20 => ("ShelfFiltersModel", "trial", "[I", true)
  | 21 => ("ShelfFiltersModel", "book", "[I", true)
  | 22 => ("ShelfFiltersModel", "doings", "I", false)
  | 23 => ("ShelfFiltersModel", "kept", "[I", true)
  | 24 => ("ShelfFiltersModel", "isKept", "[Z", true)
  | 25 => ("ShelfFiltersModel", "seen", "I", false)
  | 26 => ("ShelfFiltersModel", "seenProxy", "[I", true)
  | 27 => ("ShelfFiltersModel", "seenWhat", "[I", true)
  | 28 => ("ShelfFiltersModel", "seenWas", "[I", true)
  | 29 => ("ShelfFiltersModel", "seed", "J", false)
  | 30 => ("ShelfFiltersModel", "asked", "[I", true)
  | 31 => ("ShelfFiltersModel", "best", "[I", true)
  | _ => ("ShelfFiltersModel", "bestCost", "I", false)
def tyX8 : Nat → FieldType := fun k => match k with
  | 0 => .int
  | 1 => .array .int
  | 2 => .int
  | 3 => .int
  | 4 => .int
  | 5 => .int
  | 6 => .int
  | 7 => .array .int
  | 8 => .array .int
  | 9 => .int
  | 10 => .array .int
  | 11 => .int
  | 12 => .int
  | 13 => .int
  | 14 => .array .int
  | 15 => .array .int
  | 16 => .int
  | 17 => .array .int
  | 18 => .array .int
  | 19 => .array .int
  | 20 => .array .int
  | 21 => .array .int
  | 22 => .int
  | 23 => .array .int
  | 24 => .array .boolean
  | 25 => .int
  | 26 => .array .int
  | 27 => .array .int
  | 28 => .array .int
  | 29 => .long
  | 30 => .array .int
  | 31 => .array .int
  | _ => .int
abbrev wsX80 : List Cond := u_ws RX8 TX8 33
theorem nmX8 : ∀ a, a < 33 → ∀ b, b < 33 → a ≠ b → (TX8 a).2.1 ≠ (TX8 b).2.1 := by decide +kernel
theorem tyX8_ok : ∀ k, k < 33 → parseFieldDescriptor (TX8 k).2.2.1 = some (tyX8 k) := by decide +kernel
abbrev cX8_init : ByteArray := prog_10_method_1_code
def yX8_init : MethodName := ⟨RX8, "<init>", "()V"⟩
abbrev cX8_in : ByteArray := prog_10_method_3_code
def yX8_in : MethodName := ⟨RX8, "in", "(JJJ)Z"⟩
abbrev cX8_has : ByteArray := prog_10_method_4_code
def yX8_has : MethodName := ⟨RX8, "has", "(II)Z"⟩
abbrev cX8_ones : ByteArray := prog_10_method_5_code
def yX8_ones : MethodName := ⟨RX8, "ones", "(I)I"⟩
abbrev cX8_power : ByteArray := prog_10_method_6_code
def yX8_power : MethodName := ⟨RX8, "power", "(II)I"⟩
abbrev cX8_layTrial : ByteArray := prog_10_method_7_code
def yX8_layTrial : MethodName := ⟨RX8, "layTrial", "()V"⟩
abbrev cX8_noProxy : ByteArray := prog_10_method_8_code
def yX8_noProxy : MethodName := ⟨RX8, "noProxy", "(I)Z"⟩
abbrev cX8_noPage : ByteArray := prog_10_method_9_code
def yX8_noPage : MethodName := ⟨RX8, "noPage", "(I)Z"⟩
abbrev cX8_write : ByteArray := prog_10_method_10_code
def yX8_write : MethodName := ⟨RX8, "write", "(I)I"⟩
abbrev cX8_wipe : ByteArray := prog_10_method_11_code
def yX8_wipe : MethodName := ⟨RX8, "wipe", "()I"⟩
abbrev cX8_isFigure : ByteArray := prog_10_method_12_code
def yX8_isFigure : MethodName := ⟨RX8, "isFigure", "(II)Z"⟩
abbrev cX8_taken : ByteArray := prog_10_method_13_code
def yX8_taken : MethodName := ⟨RX8, "taken", "(I)I"⟩
abbrev cX8_readHead : ByteArray := prog_10_method_14_code
def yX8_readHead : MethodName := ⟨RX8, "readHead", "()Z"⟩
abbrev cX8_readFamily : ByteArray := prog_10_method_15_code
def yX8_readFamily : MethodName := ⟨RX8, "readFamily", "()Z"⟩
abbrev cX8_readProxy : ByteArray := prog_10_method_16_code
def yX8_readProxy : MethodName := ⟨RX8, "readProxy", "()Z"⟩
abbrev cX8_hasRoom : ByteArray := prog_10_method_17_code
def yX8_hasRoom : MethodName := ⟨RX8, "hasRoom", "(I)Z"⟩
abbrev cX8_mayCome : ByteArray := prog_10_method_18_code
def yX8_mayCome : MethodName := ⟨RX8, "mayCome", "(III)Z"⟩
abbrev cX8_readShelf : ByteArray := prog_10_method_19_code
def yX8_readShelf : MethodName := ⟨RX8, "readShelf", "()Z"⟩
abbrev cX8_readPart : ByteArray := prog_10_method_20_code
def yX8_readPart : MethodName := ⟨RX8, "readPart", "()Z"⟩
abbrev cX8_readNet : ByteArray := prog_10_method_21_code
def yX8_readNet : MethodName := ⟨RX8, "readNet", "()I"⟩
abbrev cX8_fault : ByteArray := prog_10_method_22_code
def yX8_fault : MethodName := ⟨RX8, "fault", "()I"⟩
abbrev cX8_net : ByteArray := prog_10_method_23_code
def yX8_net : MethodName := ⟨RX8, "net", "()I"⟩
abbrev cX8_hashOf : ByteArray := prog_10_method_24_code
def yX8_hashOf : MethodName := ⟨RX8, "hashOf", "(III)I"⟩
abbrev cX8_filterOf : ByteArray := prog_10_method_25_code
def yX8_filterOf : MethodName := ⟨RX8, "filterOf", "([II)I"⟩
abbrev cX8_isSaid : ByteArray := prog_10_method_26_code
def yX8_isSaid : MethodName := ⟨RX8, "isSaid", "(III)Z"⟩
abbrev cX8_summarySays : ByteArray := prog_10_method_27_code
def yX8_summarySays : MethodName := ⟨RX8, "summarySays", "([III)Z"⟩
abbrev cX8_tally : ByteArray := prog_10_method_28_code
def yX8_tally : MethodName := ⟨RX8, "tally", "([IIII)V"⟩
abbrev cX8_makeAnew : ByteArray := prog_10_method_29_code
def yX8_makeAnew : MethodName := ⟨RX8, "makeAnew", "([II)V"⟩
abbrev cX8_placeOf : ByteArray := prog_10_method_30_code
def yX8_placeOf : MethodName := ⟨RX8, "placeOf", "([III)I"⟩
abbrev cX8_freshen : ByteArray := prog_10_method_31_code
def yX8_freshen : MethodName := ⟨RX8, "freshen", "([III)V"⟩
abbrev cX8_goOut : ByteArray := prog_10_method_32_code
def yX8_goOut : MethodName := ⟨RX8, "goOut", "([III)V"⟩
abbrev cX8_comeTo : ByteArray := prog_10_method_33_code
def yX8_comeTo : MethodName := ⟨RX8, "comeTo", "([III)V"⟩
abbrev cX8_sendOn : ByteArray := prog_10_method_34_code
def yX8_sendOn : MethodName := ⟨RX8, "sendOn", "([II)V"⟩
abbrev cX8_sendDue : ByteArray := prog_10_method_35_code
def yX8_sendDue : MethodName := ⟨RX8, "sendDue", "([I)V"⟩
abbrev cX8_askOn : ByteArray := prog_10_method_36_code
def yX8_askOn : MethodName := ⟨RX8, "askOn", "([III)I"⟩
abbrev cX8_dropOn : ByteArray := prog_10_method_37_code
def yX8_dropOn : MethodName := ⟨RX8, "dropOn", "([III)V"⟩
abbrev cX8_useOn : ByteArray := prog_10_method_38_code
def yX8_useOn : MethodName := ⟨RX8, "useOn", "([II)V"⟩
abbrev cX8_shelfOf : ByteArray := prog_10_method_39_code
def yX8_shelfOf : MethodName := ⟨RX8, "shelfOf", "([II)I"⟩
abbrev cX8_falseOnes : ByteArray := prog_10_method_40_code
def yX8_falseOnes : MethodName := ⟨RX8, "falseOnes", "(III)I"⟩
abbrev cX8_denied : ByteArray := prog_10_method_41_code
def yX8_denied : MethodName := ⟨RX8, "denied", "(I)I"⟩
abbrev cX8_proxy : ByteArray := prog_10_method_42_code
def yX8_proxy : MethodName := ⟨RX8, "proxy", "(II)I"⟩
abbrev cX8_page : ByteArray := prog_10_method_43_code
def yX8_page : MethodName := ⟨RX8, "page", "(II)I"⟩
abbrev cX8_counter : ByteArray := prog_10_method_44_code
def yX8_counter : MethodName := ⟨RX8, "counter", "(II)I"⟩
abbrev cX8_hash : ByteArray := prog_10_method_45_code
def yX8_hash : MethodName := ⟨RX8, "hash", "(III)I"⟩
abbrev cX8_says : ByteArray := prog_10_method_46_code
def yX8_says : MethodName := ⟨RX8, "says", "(IIZ)I"⟩
abbrev cX8_note : ByteArray := prog_10_method_47_code
def yX8_note : MethodName := ⟨RX8, "note", "()V"⟩
abbrev cX8_ask : ByteArray := prog_10_method_48_code
def yX8_ask : MethodName := ⟨RX8, "ask", "(II)I"⟩
abbrev cX8_drop : ByteArray := prog_10_method_49_code
def yX8_drop : MethodName := ⟨RX8, "drop", "(II)I"⟩
abbrev cX8_send : ByteArray := prog_10_method_50_code
def yX8_send : MethodName := ⟨RX8, "send", "(I)I"⟩
abbrev cX8_threshold : ByteArray := prog_10_method_51_code
def yX8_threshold : MethodName := ⟨RX8, "threshold", "(II)I"⟩
abbrev cX8_use : ByteArray := prog_10_method_52_code
def yX8_use : MethodName := ⟨RX8, "use", "(I)I"⟩
abbrev cX8_undo : ByteArray := prog_10_method_53_code
def yX8_undo : MethodName := ⟨RX8, "undo", "()I"⟩
abbrev cX8_weight : ByteArray := prog_10_method_54_code
def yX8_weight : MethodName := ⟨RX8, "weight", "(I)I"⟩
abbrev cX8_madeBy : ByteArray := prog_10_method_55_code
def yX8_madeBy : MethodName := ⟨RX8, "madeBy", "(II)I"⟩
abbrev cX8_best : ByteArray := prog_10_method_56_code
def yX8_best : MethodName := ⟨RX8, "best", "(II)I"⟩
abbrev cX8_costOf : ByteArray := prog_10_method_57_code
def yX8_costOf : MethodName := ⟨RX8, "costOf", "([I)I"⟩
abbrev cX8_plan : ByteArray := prog_10_method_58_code
def yX8_plan : MethodName := ⟨RX8, "plan", "(III)I"⟩
abbrev cX8_layOrder : ByteArray := prog_10_method_59_code
def yX8_layOrder : MethodName := ⟨RX8, "layOrder", "(III)V"⟩
abbrev cX8_layBest : ByteArray := prog_10_method_60_code
def yX8_layBest : MethodName := ⟨RX8, "layBest", "(II)V"⟩
abbrev cX8_order : ByteArray := prog_10_method_61_code
def yX8_order : MethodName := ⟨RX8, "order", "(III)I"⟩
abbrev cX8_does : ByteArray := prog_10_method_62_code
def yX8_does : MethodName := ⟨RX8, "does", "(I)Z"⟩
abbrev cX8_longPower : ByteArray := prog_10_method_63_code
def yX8_longPower : MethodName := ⟨RX8, "longPower", "(JI)J"⟩
abbrev cX8_judge : ByteArray := prog_10_method_64_code
def yX8_judge : MethodName := ⟨RX8, "judge", "(IJ)I"⟩
abbrev cX8_see : ByteArray := prog_10_method_65_code
def yX8_see : MethodName := ⟨RX8, "see", "(III)I"⟩
abbrev cX8_unsee : ByteArray := prog_10_method_66_code
def yX8_unsee : MethodName := ⟨RX8, "unsee", "()I"⟩
abbrev cX8_isSo : ByteArray := prog_10_method_67_code
def yX8_isSo : MethodName := ⟨RX8, "isSo", "(II)Z"⟩
abbrev cX8_which : ByteArray := prog_10_method_68_code
def yX8_which : MethodName := ⟨RX8, "which", "()I"⟩
abbrev cX8_divisor : ByteArray := prog_10_method_69_code
def yX8_divisor : MethodName := ⟨RX8, "divisor", "(II)I"⟩
abbrev cX8_fraction : ByteArray := prog_10_method_70_code
def yX8_fraction : MethodName := ⟨RX8, "fraction", "(IIZ)I"⟩
abbrev cX8_factorial : ByteArray := prog_10_method_71_code
def yX8_factorial : MethodName := ⟨RX8, "factorial", "(I)I"⟩
abbrev cX8_hadBy : ByteArray := prog_10_method_72_code
def yX8_hadBy : MethodName := ⟨RX8, "hadBy", "(I)I"⟩
abbrev cX8_share : ByteArray := prog_10_method_73_code
def yX8_share : MethodName := ⟨RX8, "share", "(IZ)I"⟩
abbrev cX8_isRight : ByteArray := prog_10_method_74_code
def yX8_isRight : MethodName := ⟨RX8, "isRight", "(III)Z"⟩
abbrev cX8_lost : ByteArray := prog_10_method_75_code
def yX8_lost : MethodName := ⟨RX8, "lost", "(IIIZ)I"⟩
abbrev cX8_seed : ByteArray := prog_10_method_76_code
def yX8_seed : MethodName := ⟨RX8, "seed", "(J)J"⟩
abbrev cX8_drawn : ByteArray := prog_10_method_77_code
def yX8_drawn : MethodName := ⟨RX8, "drawn", "(I)I"⟩
abbrev cX8_keep : ByteArray := prog_10_method_78_code
def yX8_keep : MethodName := ⟨RX8, "keep", "(I)I"⟩
abbrev cX8_again : ByteArray := prog_10_method_79_code
def yX8_again : MethodName := ⟨RX8, "again", "(I)I"⟩
abbrev cX8_onShelves : ByteArray := prog_10_method_80_code
def yX8_onShelves : MethodName := ⟨RX8, "onShelves", "()I"⟩
abbrev cX8_count : ByteArray := prog_10_method_81_code
def yX8_count : MethodName := ⟨RX8, "count", "(I)I"⟩
def RJxf58ca : String := "java/lang/Float"
def TJxf58ca : u_T := fun k => match k with
  | _ => ("", "", "", false)
def tyJxf58ca : Nat → FieldType := fun k => match k with
  | _ => .int
abbrev wsJxf58ca0 : List Cond := u_ws RJxf58ca TJxf58ca 0
theorem nmJxf58ca : ∀ a, a < 0 → ∀ b, b < 0 → a ≠ b → (TJxf58ca a).2.1 ≠ (TJxf58ca b).2.1 := by decide +kernel
theorem tyJxf58ca_ok : ∀ k, k < 0 → parseFieldDescriptor (TJxf58ca k).2.2.1 = some (tyJxf58ca k) := by decide +kernel
abbrev cJxf58ca_isNaN_12338 : ByteArray := prog_11_method_6_code
def yJxf58ca_isNaN_12338 : MethodName := ⟨RJxf58ca, "isNaN", "(F)Z"⟩
abbrev cJxf58ca_floatToIntBits_5c35a : ByteArray := prog_11_method_24_code
def yJxf58ca_floatToIntBits_5c35a : MethodName := ⟨RJxf58ca, "floatToIntBits", "(F)I"⟩
def RJ6 : String := "java/lang/Integer"
def TJ6 : u_T := fun k => match k with
  | _ => ("", "", "", false)
def tyJ6 : Nat → FieldType := fun k => match k with
  | _ => .int
abbrev wsJ60 : List Cond := u_ws RJ6 TJ6 0
theorem nmJ6 : ∀ a, a < 0 → ∀ b, b < 0 → a ≠ b → (TJ6 a).2.1 ≠ (TJ6 b).2.1 := by decide +kernel
theorem tyJ6_ok : ∀ k, k < 0 → parseFieldDescriptor (TJ6 k).2.2.1 = some (tyJ6 k) := by decide +kernel
abbrev cJ6_bitCount_0f7a4 : ByteArray := prog_12_method_49_code
def yJ6_bitCount_0f7a4 : MethodName := ⟨RJ6, "bitCount", "(I)I"⟩
def RJ9 : String := "java/lang/Math"
def TJ9 : u_T := fun k => match k with
  | _ => ("", "", "", false)
def tyJ9 : Nat → FieldType := fun k => match k with
  | _ => .int
abbrev wsJ90 : List Cond := u_ws RJ9 TJ9 0
theorem nmJ9 : ∀ a, a < 0 → ∀ b, b < 0 → a ≠ b → (TJ9 a).2.1 ≠ (TJ9 b).2.1 := by decide +kernel
theorem tyJ9_ok : ∀ k, k < 0 → parseFieldDescriptor (TJ9 k).2.2.1 = some (tyJ9 k) := by decide +kernel
abbrev cJ9_min_7cf53 : ByteArray := prog_13_method_69_code
def yJ9_min_7cf53 : MethodName := ⟨RJ9, "min", "(II)I"⟩
def RL : String := "ShelfFiltersLaw"
abbrev cL_law : ByteArray := code
def yL_law : MethodName := ⟨RL, "law", "([I)Z"⟩
abbrev vwCl : List vw_C := [(RX0, TX0, 6), (RX1, TX1, 7), (RX2, TX2, 2), (RX3, TX3, 3), (RX4, TX4, 7), (RX5, TX5, 4), (RX6, TX6, 5), (RX7, TX7, 10), (RX8, TX8, 33)]
end
section
/-- the words of the tables that any method may be asked for -/
def gTbl : List Cond := lw_tbl.filter goodWord
theorem gTbl_of {w : Cond} (h : w ∈ lw_tbl) (hg : goodWord w = true) : w ∈ gTbl := List.mem_filter.mpr ⟨h, hg⟩
def nwL : List (String × Nat × MethodName × String) := [(RX7, 9, yX6_init, "ShelfFilters"), (RX1, 11, yX0_init, "ShelfFilters"), (RX1, 40, yX4_init, "ShelfFilters"), (RX7, 43, yX5_init, "ShelfFilters"), (RX7, 50, yX2_init, "ShelfFilters"), (RX6, 101, yX7_isPage, "ShelfFilters"), (RX0, 31, yX7_copyRow, "ShelfFilters"), (RX4, 34, yX7_copyRow, "ShelfFilters"), (RX3, 25, yX7_netAt, "ShelfFilters"), (RX2, 19, yX7_copyRow, "ShelfFilters")]
def NW (U : State) : Prop := ∀ q ∈ nwL, va_Nw (.methodLinkNest q.1 q.2.1 q.2.2.1 q.2.2.2) U
/-! the shadow state: ints of every object and array by address and place, longs by address -/
abbrev HI : Type := Nat → Nat → Int32
abbrev HJ : Type := Nat → Int64
def uR (f : Nat → Int32) (k : Nat) (v : Int32) : Nat → Int32 := fun k' => if k' = k then v else f k'
def sI (I : HI) (a k : Nat) (v : Int32) : HI := fun a' => if a' = a then uR (I a) k v else I a'
def sJ (J : HJ) (a : Nat) (v : Int64) : HJ := fun a' => if a' = a then v else J a'
/-- kinds by address, addresses, class numbers -/
abbrev GX : Type := (Nat → Nat) × List Nat × va_G × ClassId × ClassId × ClassId × ClassId
abbrev gK (G : GX) : Nat → Nat := G.1
abbrev gL (G : GX) : List Nat := G.2.1
abbrev gD (G : GX) : va_G := G.2.2.1
abbrev gcI (G : GX) : ClassId := G.2.2.2.1
abbrev gcZ (G : GX) : ClassId := G.2.2.2.2.1
abbrev gcP (G : GX) : ClassId := G.2.2.2.2.2.1
abbrev gcN (G : GX) : ClassId := G.2.2.2.2.2.2
def gT (G : GX) : List (ClassId × FieldType) := [(gcI G, .int), (gcZ G, .boolean), (gcP G, .object "ShelfFilters$Proxy"), (gcN G, .object "ShelfFilters$Net")]
/-- what an object of a kind holds: its ints out of its row, its references by the layout -/
def fsR (f : Nat → Int32) (j : Int64) (a : Nat) : Nat → List Value
  | 1 => [.int (f 0), .int (f 1), .int (f 2), .int (f 3), .ref (a + 1), .ref (a + 2)]
  | 2 => [.ref (a + 1), .ref (a + 4), .int (f 2), .int (f 3), .int (f 4), .int (f 5), .int (f 6)]
  | 3 => [.int (f 0), .ref (a + 1)]
  | 4 => [.ref (a + 1), .int (f 1), .int (f 2)]
  | 5 => [.int (f 0), .int (f 1), .int (f 2), .int (f 3), .int (f 4), .ref (a + 1), .ref (a + 2)]
  | 6 => [.ref (a + 1), .ref (a + 2), .ref (a + 3), .int (f 3)]
  | 7 => [.int (f 0), .ref (a + 1), .ref (a + 18), .int (f 3), .int (f 4)]
  | 8 => [.ref (a + 1), .ref (a + 20), .ref (a + 37), .ref (a + 54), .ref (a + 294), .ref (a + 295), .ref (a + 296), .ref (a + 300), .ref (a + 302), .long j]
  | 9 => [.int (f 0), .ref (a + 1), .int (f 2), .int (f 3), .int (f 4), .int (f 5), .int (f 6), .ref (a + 2), .ref (a + 3), .int (f 9), .ref (a + 4), .int (f 11), .int (f 12), .int (f 13), .ref (a + 5), .ref (a + 6), .int (f 16), .ref (a + 7), .ref (a + 8), .ref (a + 9), .ref (a + 10), .ref (a + 11), .int (f 22), .ref (a + 12), .ref (a + 13), .int (f 25), .ref (a + 14), .ref (a + 15), .ref (a + 16), .long j, .ref (a + 17), .ref (a + 18), .int (f 32)]
  | _ => []
def eR (G : GX) (f : Nat → Int32) (j : Int64) (a : Nat) : va_E :=
  if gK G a < 10 then .inr (gK G a - 1, fsR f j a (gK G a))
  else if gK G a = 10 then .inl (gcP G, 4, .inr (.inr (.inr (.inr (fun i => some (a + 1 + 3 * i))))))
  else if gK G a = 11 then .inl (gcN G, 14, .inr (.inr (.inr (.inr (fun i => some (a + 1 + 17 * i))))))
  else if gK G a = 12 then .inl (gcN G, 2, .inr (.inr (.inr (.inr (fun i => some (a + 10 + 17 * i))))))
  else if gK G a < 100 then .inl (gcZ G, gK G a - 50, .inl f)
  else .inl (gcI G, gK G a - 100, .inl f)
def eK (G : GX) (I : HI) (J : HJ) (a : Nat) : va_E := eR G (I a) (J a) a
/-- the closure of the kinds -/
def clo (K : Nat → Nat) : Prop := ∀ a, (K a = 1 → K (a + 1) = 103 ∧ K (a + 2) = 103)
  ∧ (K a = 2 → K (a + 1) = 1 ∧ K (a + 4) = 10)
  ∧ (K a = 3 → K (a + 1) = 105)
  ∧ (K a = 4 → K (a + 1) = 11)
  ∧ (K a = 5 → K (a + 1) = 109 ∧ K (a + 2) = 116)
  ∧ (K a = 6 → K (a + 1) = 106 ∧ K (a + 2) = 106 ∧ K (a + 3) = 56)
  ∧ (K a = 7 → K (a + 1) = 2 ∧ K (a + 18) = 200)
  ∧ (K a = 8 → K (a + 1) = 7 ∧ K (a + 20) = 2 ∧ K (a + 37) = 2 ∧ K (a + 54) = 4 ∧ K (a + 294) = 12 ∧ K (a + 295) = 52 ∧ K (a + 296) = 6 ∧ K (a + 300) = 3 ∧ K (a + 302) = 3)
  ∧ (K a = 9 → K (a + 1) = 200 ∧ K (a + 2) = 103 ∧ K (a + 3) = 103 ∧ K (a + 4) = 104 ∧ K (a + 5) = 103 ∧ K (a + 6) = 103 ∧ K (a + 7) = 104 ∧ K (a + 8) = 221 ∧ K (a + 9) = 221 ∧ K (a + 10) = 221 ∧ K (a + 11) = 1794 ∧ K (a + 12) = 342 ∧ K (a + 13) = 52 ∧ K (a + 14) = 106 ∧ K (a + 15) = 106 ∧ K (a + 16) = 106 ∧ K (a + 17) = 105 ∧ K (a + 18) = 105)
  ∧ (K a = 10 → ∀ i, i < 4 → K (a + 1 + 3 * i) = 5)
  ∧ (K a = 11 → ∀ i, i < 14 → K (a + 1 + 17 * i) = 2)
  ∧ (K a = 12 → ∀ i, i < 2 → K (a + 10 + 17 * i) = 2)
def OKG (G : GX) : Prop := (gL G).Nodup ∧ (∀ a, gK G a ≠ 0 → a ∈ gL G) ∧ clo (gK G)
def Wd (G : GX) (I : HI) (J : HJ) (H : Heap) : Prop := va_P (gD G) vwCl (va_pl (gL G) (eK G I J)) H
/-- the place where a method stands -/
abbrev CX : Type := GX × Launch × Program × Env × Room × State × MethodId × Array Value × List Frame × Method × Code × (State → Prop) × (Nat → Prop) × Nat × Nat × Nat
abbrev xG (X : CX) := X.1
abbrev xl (X : CX) := X.2.1
abbrev xp (X : CX) := X.2.2.1
abbrev xe (X : CX) := X.2.2.2.1
abbrev xR (X : CX) := X.2.2.2.2.1
abbrev xs (X : CX) := X.2.2.2.2.2.1
abbrev xm (X : CX) := X.2.2.2.2.2.2.1
abbrev xa (X : CX) := X.2.2.2.2.2.2.2.1
abbrev xb (X : CX) := X.2.2.2.2.2.2.2.2.1
abbrev xM (X : CX) := X.2.2.2.2.2.2.2.2.2.1
abbrev xc (X : CX) := X.2.2.2.2.2.2.2.2.2.2.1
abbrev xQ (X : CX) := X.2.2.2.2.2.2.2.2.2.2.2.1
abbrev xA (X : CX) := X.2.2.2.2.2.2.2.2.2.2.2.2.1
abbrev xk (X : CX) := X.2.2.2.2.2.2.2.2.2.2.2.2.2.1
abbrev xn (X : CX) := X.2.2.2.2.2.2.2.2.2.2.2.2.2.2.1
abbrev xN (X : CX) := X.2.2.2.2.2.2.2.2.2.2.2.2.2.2.2
/-- W at a place -/
abbrev WX (X : CX) (H : Heap) (locs : List Loc) (pc : Nat) (ls : Array Slot) (st : List Value) : Prop := W (xp X) (xl X) (xe X) (xR X) (xs X) (xm X) (xa X) (xb X) (xM X) (xc X) H locs (xk X) (xn X) (xQ X) (F0 (xm X) pc ls st)
/-- the locals by their places -/
def lvA : Nat → List (Option Value) → List (Nat × Value)
  | _, [] => []
  | k, none :: t => lvA (k + 1) t
  | k, some v :: t => (k, v) :: lvA (k + 1) t
theorem lvA_mem : ∀ (l : List (Option Value)) (n k : Nat) (v : Value), (k, v) ∈ lvA n l ↔ n ≤ k ∧ l[k - n]? = some (some v)
  | [], n, k, v => by simp [lvA]
  | none :: t, n, k, v => by
    rw [lvA, lvA_mem t (n + 1) k v]
    constructor
    · rintro ⟨h1, h2⟩
      refine ⟨by omega, ?_⟩
      rw [show k - n = (k - (n + 1)) + 1 by omega]; exact h2
    · rintro ⟨h1, h2⟩
      rcases Nat.lt_or_eq_of_le h1 with h | h
      · refine ⟨by omega, ?_⟩
        rw [show k - n = (k - (n + 1)) + 1 by omega] at h2; exact h2
      · subst h; simp at h2
  | some u :: t, n, k, v => by
    rw [lvA, List.mem_cons, lvA_mem t (n + 1) k v]
    constructor
    · rintro (h | ⟨h1, h2⟩)
      · cases h; exact ⟨Nat.le_refl _, by simp⟩
      · refine ⟨by omega, ?_⟩
        rw [show k - n = (k - (n + 1)) + 1 by omega]; exact h2
    · rintro ⟨h1, h2⟩
      rcases Nat.lt_or_eq_of_le h1 with h | h
      · right
        refine ⟨by omega, ?_⟩
        rw [show k - n = (k - (n + 1)) + 1 by omega] at h2; exact h2
      · left; subst h; simp at h2; subst h2; rfl
def lvH (ls : Array Slot) (nL : Nat) (lv : List (Option Value)) : Prop := lv_has ls nL (lvA 0 lv)
theorem lvH.at {ls nL lv} (h : lvH ls nL lv) {k : Nat} {v : Value} (hk : lv[k]? = some (some v)) : ls[k]? = some (.val v) := h.2.2 (k, v) ((lvA_mem lv 0 k v).mpr ⟨Nat.zero_le _, hk⟩)
/-- the place below holds no long -/
def c1 (lv : List (Option Value)) : Nat → Bool
  | 0 => true
  | j + 1 => match lv[j]? with
    | some (some v) => v.category == 1
    | _ => true
theorem lvH.of_sub {ls nL} {l : List (Nat × Value)} {lv : List (Option Value)} (h : lv_has ls nL l) (hs : ∀ q ∈ lvA 0 lv, q ∈ l) : lvH ls nL lv := ⟨h.1, h.2.1, fun q hq => h.2.2 q (hs q hq)⟩
theorem lvH.set1 {ls nL lv} {k : Nat} {v : Value} (hc : c1 lv k = true) (h : lv_has ls nL ((k, v) :: (lvA 0 lv).filter (fun q => !(q.1 == k) && !(q.1 + 1 == k && q.2.category == 2)))) : lvH ls nL (lv.set k (some v)) := by
  refine lvH.of_sub h fun q hq => ?_
  obtain ⟨j, u⟩ := q
  have h1 := ((lvA_mem _ 0 j u).mp hq).2
  rw [Nat.sub_zero, List.getElem?_set] at h1
  by_cases hj : k = j
  · subst hj
    by_cases hl : k < lv.length
    · simp [hl] at h1; subst h1; exact List.mem_cons_self
    · simp [hl] at h1
  · rw [if_neg hj] at h1
    refine List.mem_cons_of_mem _ (List.mem_filter.mpr ⟨(lvA_mem lv 0 j u).mpr ⟨Nat.zero_le _, h1⟩, ?_⟩)
    have hj' : ¬ j = k := fun e => hj e.symm
    by_cases hk : j + 1 = k
    · subst hk
      simp [c1, h1] at hc
      simp [hc]
    · simp [hj', hk]
theorem lvH.set2 {ls nL lv} {k : Nat} {v : Value} (hc : c1 lv k = true) (h : lv_has ls nL ((k, v) :: (lvA 0 lv).filter (fun q => !(q.1 == k) && (!(q.1 == k + 1) && !(q.1 + 1 == k && q.2.category == 2))))) : lvH ls nL ((lv.set k (some v)).set (k + 1) none) := by
  refine lvH.of_sub h fun q hq => ?_
  obtain ⟨j, u⟩ := q
  have h1 := ((lvA_mem _ 0 j u).mp hq).2
  rw [Nat.sub_zero, List.getElem?_set] at h1
  by_cases hj2 : k + 1 = j
  · subst hj2
    rw [if_pos rfl] at h1
    split at h1 <;> simp at h1
  · rw [if_neg hj2, List.getElem?_set] at h1
    by_cases hj : k = j
    · subst hj
      by_cases hl : k < lv.length
      · simp [hl] at h1; subst h1; exact List.mem_cons_self
      · simp [hl] at h1
    · rw [if_neg hj] at h1
      refine List.mem_cons_of_mem _ (List.mem_filter.mpr ⟨(lvA_mem lv 0 j u).mpr ⟨Nat.zero_le _, h1⟩, ?_⟩)
      have hj' : ¬ j = k := fun e => hj e.symm
      have hj2' : ¬ j = k + 1 := fun e => hj2 e.symm
      by_cases hk : j + 1 = k
      · subst hk
        simp [c1, h1] at hc
        simp [hc]
        omega
      · simp [hj', hj2', hk]
/-- fewer locals -/
def lmask : List Bool → List (Option Value) → List (Option Value)
  | true :: m, v :: t => v :: lmask m t
  | false :: m, _ :: t => none :: lmask m t
  | _, _ => []
theorem lmask_get : ∀ (m : List Bool) (l : List (Option Value)) (k : Nat) (v : Value), (lmask m l)[k]? = some (some v) → l[k]? = some (some v)
  | [], l, k, v, h => by simp [lmask] at h
  | true :: m, [], k, v, h => by simp [lmask] at h
  | false :: m, [], k, v, h => by simp [lmask] at h
  | true :: m, x :: t, 0, v, h => by simpa [lmask] using h
  | true :: m, x :: t, k + 1, v, h => by simp only [lmask, List.getElem?_cons_succ] at h ⊢; exact lmask_get m t k v h
  | false :: m, x :: t, 0, v, h => by simp [lmask] at h
  | false :: m, x :: t, k + 1, v, h => by simp only [lmask, List.getElem?_cons_succ] at h ⊢; exact lmask_get m t k v h
theorem lvH.mask {ls nL lv} (m : List Bool) (h : lvH ls nL lv) : lvH ls nL (lmask m lv) := lvH.of_sub h fun q hq => by
  obtain ⟨j, u⟩ := q
  have h1 := ((lvA_mem _ 0 j u).mp hq).2
  exact (lvA_mem lv 0 j u).mpr ⟨Nat.zero_le _, lmask_get m lv _ u h1⟩
/-- the machine at a place, over a shadow state -/
def V (X : CX) (I : HI) (J : HJ) (pc : Nat) (lv : List (Option Value)) (st : List Value) : Prop := ∀ (H : Heap) (locs : List Loc) (ls : Array Slot), Wd (xG X) I J H → va_S (xA X) (xs X).heap H locs → lvH ls (xN X) lv → WX X H locs pc ls st
/-- what stands fast in a method: code cc of class own, d frames and loc locals of room, nL locals -/
def OKX (X : CX) (cc : ByteArray) (own : String) (d loc nL : Nat) : Prop :=
  (xp X).tables.exec = Jvm.exec ∧ (xc X).code = cc ∧ (xc X).maxLocals = nL ∧ (xs X).vm.findClass own = some (xm X).cls ∧ (∀ w ∈ gTbl, w.before (xa X) (xs X) = true) ∧ va_K (gD (xG X)) vwCl (gT (xG X)) (xs X) ∧ OKG (xG X) ∧ (∀ q ∈ gL (xG X), xA X q) ∧ xN X = nL ∧ d ≤ (xR X).frames ∧ loc ≤ (xR X).locals ∧ xk X ≤ (xR X).cells ∧ xn X ≤ (xR X).slots ∧ NW (xs X)
section Rows
variable {X : CX} {I : HI} {J : HJ} {pc : Nat} {lv : List (Option Value)} {st : List Value} {cc : ByteArray} {own : String} {d loc nL : Nat}
theorem V.mask (m : List Bool) (h : V X I J pc (lmask m lv) st) : V X I J pc lv st := fun H locs ls a b c => h H locs ls a b (c.mask m)
theorem V.lvc {lv' : List (Option Value)} (e : lv = lv') (h : V X I J pc lv' st) : V X I J pc lv st := e ▸ h
theorem r_iconst (hX : OKX X cc own d loc nL) {n : Int} {v : Int32} (hd : decode cc pc = .ok (.iconst n, 1)) (hv : Int32.ofInt n = v) (k : V X I J (pc + 1) lv (.int v :: st)) : V X I J pc lv (st) := by
  obtain ⟨hx, hb, -⟩ := hX
  intro H locs ls hW hS hl
  exact lv_iconst hx hb hd hv (k H locs ls hW hS hl)
theorem r_bipush (hX : OKX X cc own d loc nL) {n : Int} {v : Int32} (hd : decode cc pc = .ok (.bipush n, 2)) (hv : (Int8.ofInt n).toInt32 = v) (k : V X I J (pc + 2) lv (.int v :: st)) : V X I J pc lv (st) := by
  obtain ⟨hx, hb, -⟩ := hX
  intro H locs ls hW hS hl
  exact lv_bipush hx hb hd hv (k H locs ls hW hS hl)
theorem r_sipush (hX : OKX X cc own d loc nL) {n : Int} {v : Int32} (hd : decode cc pc = .ok (.sipush n, 3)) (hv : (Int16.ofInt n).toInt32 = v) (k : V X I J (pc + 3) lv (.int v :: st)) : V X I J pc lv (st) := by
  obtain ⟨hx, hb, -⟩ := hX
  intro H locs ls hW hS hl
  exact lv_sipush hx hb hd hv (k H locs ls hW hS hl)
theorem r_lconst (hX : OKX X cc own d loc nL) {n : Fin 2} {v : Int64} (hd : decode cc pc = .ok (.lconst n, 1)) (hv : Int64.ofNat (n : Nat) = v) (k : V X I J (pc + 1) lv (.long v :: st)) : V X I J pc lv (st) := by
  obtain ⟨hx, hb, -⟩ := hX
  intro H locs ls hW hS hl
  exact lv_lconst hx hb hd hv (k H locs ls hW hS hl)
theorem r_fconst0 (hX : OKX X cc own d loc nL)  (hd : decode cc pc = .ok (.fconst 0, 1))  (k : V X I J (pc + 1) lv (.float FP.fconst0 :: st)) : V X I J pc lv (st) := by
  obtain ⟨hx, hb, -⟩ := hX
  intro H locs ls hW hS hl
  exact lv_fconst0 hx hb hd  (k H locs ls hW hS hl)
theorem r_fconst1 (hX : OKX X cc own d loc nL)  (hd : decode cc pc = .ok (.fconst 1, 1))  (k : V X I J (pc + 1) lv (.float FP.fconst1 :: st)) : V X I J pc lv (st) := by
  obtain ⟨hx, hb, -⟩ := hX
  intro H locs ls hW hS hl
  exact lv_fconst1 hx hb hd  (k H locs ls hW hS hl)
theorem r_fconst2 (hX : OKX X cc own d loc nL)  (hd : decode cc pc = .ok (.fconst 2, 1))  (k : V X I J (pc + 1) lv (.float FP.fconst2 :: st)) : V X I J pc lv (st) := by
  obtain ⟨hx, hb, -⟩ := hX
  intro H locs ls hW hS hl
  exact lv_fconst2 hx hb hd  (k H locs ls hW hS hl)
theorem r_null (hX : OKX X cc own d loc nL)  (hd : decode cc pc = .ok (.aconst_null, 1))  (k : V X I J (pc + 1) lv (.null :: st)) : V X I J pc lv (st) := by
  obtain ⟨hx, hb, -⟩ := hX
  intro H locs ls hW hS hl
  exact lv_null hx hb hd  (k H locs ls hW hS hl)
theorem r_ldc (hX : OKX X cc own d loc nL) {idx : Nat} {v : Int32} (hd : decode cc pc = .ok (.ldc idx, 2)) (hc : Cond.constant own idx v ∈ gTbl) (k : V X I J (pc + 2) lv (.int v :: st)) : V X I J pc lv st := by
  obtain ⟨hx, hb, -, ho, hts, -⟩ := hX
  intro H locs ls hW hS hl
  exact lv_ldc hx hb ho (hts _ hc) hd (k H locs ls hW hS hl)
theorem r_ldcw (hX : OKX X cc own d loc nL) {idx : Nat} {v : Int32} (hd : decode cc pc = .ok (.ldc_w idx, 3)) (hc : Cond.constant own idx v ∈ gTbl) (k : V X I J (pc + 3) lv (.int v :: st)) : V X I J pc lv st := by
  obtain ⟨hx, hb, -, ho, hts, -⟩ := hX
  intro H locs ls hW hS hl
  exact lv_ldcw hx hb ho (hts _ hc) hd (k H locs ls hW hS hl)
theorem r_ldcf (hX : OKX X cc own d loc nL) {idx : Nat} {v : UInt32} (hd : decode cc pc = .ok (.ldc idx, 2)) (hc : Cond.constantFloat own idx v ∈ gTbl) (k : V X I J (pc + 2) lv (.float v :: st)) : V X I J pc lv st := by
  obtain ⟨hx, hb, -, ho, hts, -⟩ := hX
  intro H locs ls hW hS hl
  exact lv_ldcf hx hb ho (hts _ hc) hd (k H locs ls hW hS hl)
theorem r_ldc2 (hX : OKX X cc own d loc nL) {idx : Nat} {v : Int64} (hd : decode cc pc = .ok (.ldc2_w idx, 3)) (hc : Cond.constantLong own idx v ∈ gTbl) (k : V X I J (pc + 3) lv (.long v :: st)) : V X I J pc lv st := by
  obtain ⟨hx, hb, -, ho, hts, -⟩ := hX
  intro H locs ls hW hS hl
  exact lv_ldc2 hx hb ho (hts _ hc) hd (k H locs ls hW hS hl)
theorem r_iload_n (hX : OKX X cc own d loc nL) {k : Fin 4} {x : Int32} (hd : decode cc pc = .ok (.iload_n k, 1)) (h : lv[(k : Nat)]? = some (some (.int x))) (kk : V X I J (pc + 1) lv (.int x :: st)) : V X I J pc lv st := by
  obtain ⟨hx, hb, -⟩ := hX
  intro H locs ls hW hS hl
  exact lv_iload_n hx hb hd rfl (hl.at h) (kk H locs ls hW hS hl)
theorem r_iload (hX : OKX X cc own d loc nL) {i : Nat} {x : Int32} (hd : decode cc pc = .ok (.iload i, 2)) (h : lv[i]? = some (some (.int x))) (kk : V X I J (pc + 2) lv (.int x :: st)) : V X I J pc lv st := by
  obtain ⟨hx, hb, -⟩ := hX
  intro H locs ls hW hS hl
  exact lv_iload hx hb hd (hl.at h) (kk H locs ls hW hS hl)
theorem r_lload_n (hX : OKX X cc own d loc nL) {k : Fin 4} {x : Int64} (hd : decode cc pc = .ok (.lload_n k, 1)) (h : lv[(k : Nat)]? = some (some (.long x))) (kk : V X I J (pc + 1) lv (.long x :: st)) : V X I J pc lv st := by
  obtain ⟨hx, hb, -⟩ := hX
  intro H locs ls hW hS hl
  exact lv_lload_n hx hb hd rfl (hl.at h) (kk H locs ls hW hS hl)
theorem r_lload (hX : OKX X cc own d loc nL) {i : Nat} {x : Int64} (hd : decode cc pc = .ok (.lload i, 2)) (h : lv[i]? = some (some (.long x))) (kk : V X I J (pc + 2) lv (.long x :: st)) : V X I J pc lv st := by
  obtain ⟨hx, hb, -⟩ := hX
  intro H locs ls hW hS hl
  exact lv_lload hx hb hd (hl.at h) (kk H locs ls hW hS hl)
theorem r_fload_n (hX : OKX X cc own d loc nL) {k : Fin 4} {x : UInt32} (hd : decode cc pc = .ok (.fload_n k, 1)) (h : lv[(k : Nat)]? = some (some (.float x))) (kk : V X I J (pc + 1) lv (.float x :: st)) : V X I J pc lv st := by
  obtain ⟨hx, hb, -⟩ := hX
  intro H locs ls hW hS hl
  exact lv_fload_n hx hb hd rfl (hl.at h) (kk H locs ls hW hS hl)
theorem r_fload (hX : OKX X cc own d loc nL) {i : Nat} {x : UInt32} (hd : decode cc pc = .ok (.fload i, 2)) (h : lv[i]? = some (some (.float x))) (kk : V X I J (pc + 2) lv (.float x :: st)) : V X I J pc lv st := by
  obtain ⟨hx, hb, -⟩ := hX
  intro H locs ls hW hS hl
  exact lv_fload hx hb hd (hl.at h) (kk H locs ls hW hS hl)
theorem r_aload_n (hX : OKX X cc own d loc nL) {k : Fin 4} {x : Nat} (hd : decode cc pc = .ok (.aload_n k, 1)) (h : lv[(k : Nat)]? = some (some (.ref x))) (kk : V X I J (pc + 1) lv (.ref x :: st)) : V X I J pc lv st := by
  obtain ⟨hx, hb, -⟩ := hX
  intro H locs ls hW hS hl
  exact lv_aload_n hx hb hd rfl (hl.at h) (kk H locs ls hW hS hl)
theorem r_aload (hX : OKX X cc own d loc nL) {i : Nat} {x : Nat} (hd : decode cc pc = .ok (.aload i, 2)) (h : lv[i]? = some (some (.ref x))) (kk : V X I J (pc + 2) lv (.ref x :: st)) : V X I J pc lv st := by
  obtain ⟨hx, hb, -⟩ := hX
  intro H locs ls hW hS hl
  exact lv_aload hx hb hd (hl.at h) (kk H locs ls hW hS hl)
theorem r_aload_nN (hX : OKX X cc own d loc nL) {k : Fin 4} (hd : decode cc pc = .ok (.aload_n k, 1)) (h : lv[(k : Nat)]? = some (some .null)) (kk : V X I J (pc + 1) lv (.null :: st)) : V X I J pc lv st := by
  obtain ⟨hx, hb, -⟩ := hX
  intro H locs ls hW hS hl
  exact lv_aload_nN hx hb hd rfl (hl.at h) (kk H locs ls hW hS hl)
theorem r_aloadN (hX : OKX X cc own d loc nL) {i : Nat} (hd : decode cc pc = .ok (.aload i, 2)) (h : lv[i]? = some (some .null)) (kk : V X I J (pc + 2) lv (.null :: st)) : V X I J pc lv st := by
  obtain ⟨hx, hb, -⟩ := hX
  intro H locs ls hW hS hl
  exact lv_aloadN hx hb hd (hl.at h) (kk H locs ls hW hS hl)
theorem r_istore_n (hX : OKX X cc own d loc nL) {k : Fin 4} {x : Int32} (hd : decode cc pc = .ok (.istore_n k, 1)) (hn : Nat.blt k nL = true) (hc : c1 lv k = true) (kk : V X I J (pc + 1) (lv.set k (some (.int x))) st) : V X I J pc lv (.int x :: st) := by
  obtain ⟨hx, hb, -, -, -, -, -, -, hN, -⟩ := hX
  intro H locs ls hW hS hl
  have hl0 : lv_has ls (xN X) (lvA 0 lv) := hl
  exact lv_istore_n hx hb hd rfl hl0 (by rw [hN]; exact Nat.le_of_ble_eq_true hn) rfl (fun ls2 h2 => kk H locs ls2 hW hS (lvH.set1 hc h2))
theorem r_istore (hX : OKX X cc own d loc nL) {k : Nat} {x : Int32} (hd : decode cc pc = .ok (.istore k, 2)) (hn : Nat.blt k nL = true) (hc : c1 lv k = true) (kk : V X I J (pc + 2) (lv.set k (some (.int x))) st) : V X I J pc lv (.int x :: st) := by
  obtain ⟨hx, hb, -, -, -, -, -, -, hN, -⟩ := hX
  intro H locs ls hW hS hl
  have hl0 : lv_has ls (xN X) (lvA 0 lv) := hl
  exact lv_istore hx hb hd hl0 (by rw [hN]; exact Nat.le_of_ble_eq_true hn) rfl (fun ls2 h2 => kk H locs ls2 hW hS (lvH.set1 hc h2))
theorem r_fstore_n (hX : OKX X cc own d loc nL) {k : Fin 4} {x : UInt32} (hd : decode cc pc = .ok (.fstore_n k, 1)) (hn : Nat.blt k nL = true) (hc : c1 lv k = true) (kk : V X I J (pc + 1) (lv.set k (some (.float x))) st) : V X I J pc lv (.float x :: st) := by
  obtain ⟨hx, hb, -, -, -, -, -, -, hN, -⟩ := hX
  intro H locs ls hW hS hl
  have hl0 : lv_has ls (xN X) (lvA 0 lv) := hl
  exact lv_fstore_n hx hb hd rfl hl0 (by rw [hN]; exact Nat.le_of_ble_eq_true hn) rfl (fun ls2 h2 => kk H locs ls2 hW hS (lvH.set1 hc h2))
theorem r_fstore (hX : OKX X cc own d loc nL) {k : Nat} {x : UInt32} (hd : decode cc pc = .ok (.fstore k, 2)) (hn : Nat.blt k nL = true) (hc : c1 lv k = true) (kk : V X I J (pc + 2) (lv.set k (some (.float x))) st) : V X I J pc lv (.float x :: st) := by
  obtain ⟨hx, hb, -, -, -, -, -, -, hN, -⟩ := hX
  intro H locs ls hW hS hl
  have hl0 : lv_has ls (xN X) (lvA 0 lv) := hl
  exact lv_fstore hx hb hd hl0 (by rw [hN]; exact Nat.le_of_ble_eq_true hn) rfl (fun ls2 h2 => kk H locs ls2 hW hS (lvH.set1 hc h2))
theorem r_astore_n (hX : OKX X cc own d loc nL) {k : Fin 4} {x : Nat} (hd : decode cc pc = .ok (.astore_n k, 1)) (hn : Nat.blt k nL = true) (hc : c1 lv k = true) (kk : V X I J (pc + 1) (lv.set k (some (.ref x))) st) : V X I J pc lv (.ref x :: st) := by
  obtain ⟨hx, hb, -, -, -, -, -, -, hN, -⟩ := hX
  intro H locs ls hW hS hl
  have hl0 : lv_has ls (xN X) (lvA 0 lv) := hl
  exact lv_astore_n hx hb hd rfl hl0 (by rw [hN]; exact Nat.le_of_ble_eq_true hn) rfl (fun ls2 h2 => kk H locs ls2 hW hS (lvH.set1 hc h2))
theorem r_astore (hX : OKX X cc own d loc nL) {k : Nat} {x : Nat} (hd : decode cc pc = .ok (.astore k, 2)) (hn : Nat.blt k nL = true) (hc : c1 lv k = true) (kk : V X I J (pc + 2) (lv.set k (some (.ref x))) st) : V X I J pc lv (.ref x :: st) := by
  obtain ⟨hx, hb, -, -, -, -, -, -, hN, -⟩ := hX
  intro H locs ls hW hS hl
  have hl0 : lv_has ls (xN X) (lvA 0 lv) := hl
  exact lv_astore hx hb hd hl0 (by rw [hN]; exact Nat.le_of_ble_eq_true hn) rfl (fun ls2 h2 => kk H locs ls2 hW hS (lvH.set1 hc h2))
theorem r_astore_nN (hX : OKX X cc own d loc nL) {k : Fin 4} (hd : decode cc pc = .ok (.astore_n k, 1)) (hn : Nat.blt k nL = true) (hc : c1 lv k = true) (kk : V X I J (pc + 1) (lv.set k (some .null)) st) : V X I J pc lv (.null :: st) := by
  obtain ⟨hx, hb, -, -, -, -, -, -, hN, -⟩ := hX
  intro H locs ls hW hS hl
  have hl0 : lv_has ls (xN X) (lvA 0 lv) := hl
  exact lv_astore_nN hx hb hd rfl hl0 (by rw [hN]; exact Nat.le_of_ble_eq_true hn) rfl (fun ls2 h2 => kk H locs ls2 hW hS (lvH.set1 hc h2))
theorem r_astoreN (hX : OKX X cc own d loc nL) {k : Nat} (hd : decode cc pc = .ok (.astore k, 2)) (hn : Nat.blt k nL = true) (hc : c1 lv k = true) (kk : V X I J (pc + 2) (lv.set k (some .null)) st) : V X I J pc lv (.null :: st) := by
  obtain ⟨hx, hb, -, -, -, -, -, -, hN, -⟩ := hX
  intro H locs ls hW hS hl
  have hl0 : lv_has ls (xN X) (lvA 0 lv) := hl
  exact lv_astoreN hx hb hd hl0 (by rw [hN]; exact Nat.le_of_ble_eq_true hn) rfl (fun ls2 h2 => kk H locs ls2 hW hS (lvH.set1 hc h2))
theorem r_lstore_n (hX : OKX X cc own d loc nL) {k : Fin 4} {x : Int64} (hd : decode cc pc = .ok (.lstore_n k, 1)) (hn : Nat.blt (k + 1) nL = true) (hc : c1 lv k = true) (kk : V X I J (pc + 1) ((lv.set k (some (.long x))).set (k + 1) none) st) : V X I J pc lv (.long x :: st) := by
  obtain ⟨hx, hb, -, -, -, -, -, -, hN, -⟩ := hX
  intro H locs ls hW hS hl
  have hl0 : lv_has ls (xN X) (lvA 0 lv) := hl
  exact lv_lstore_n hx hb hd rfl hl0 (by rw [hN]; exact Nat.le_of_ble_eq_true hn) rfl (fun ls2 h2 => kk H locs ls2 hW hS (lvH.set2 hc h2))
theorem r_lstore (hX : OKX X cc own d loc nL) {k : Nat} {x : Int64} (hd : decode cc pc = .ok (.lstore k, 2)) (hn : Nat.blt (k + 1) nL = true) (hc : c1 lv k = true) (kk : V X I J (pc + 2) ((lv.set k (some (.long x))).set (k + 1) none) st) : V X I J pc lv (.long x :: st) := by
  obtain ⟨hx, hb, -, -, -, -, -, -, hN, -⟩ := hX
  intro H locs ls hW hS hl
  have hl0 : lv_has ls (xN X) (lvA 0 lv) := hl
  exact lv_lstore hx hb hd hl0 (by rw [hN]; exact Nat.le_of_ble_eq_true hn) rfl (fun ls2 h2 => kk H locs ls2 hW hS (lvH.set2 hc h2))
theorem r_iinc (hX : OKX X cc own d loc nL) {i : Nat} {n : Int} {n' x : Int32} (hd : decode cc pc = .ok (.iinc i n, 3)) (hv : Int32.ofInt n = n') (h : lv[i]? = some (some (.int x))) (hn : Nat.blt i nL = true) (hc : c1 lv i = true) (kk : V X I J (pc + 3) (lv.set i (some (.int (x + n')))) st) : V X I J pc lv st := by
  obtain ⟨hx, hb, -, -, -, -, -, -, hN, -⟩ := hX
  intro H locs ls hW hS hl
  have hl0 : lv_has ls (xN X) (lvA 0 lv) := hl
  obtain ⟨j, hj⟩ := List.getElem?_of_mem ((lvA_mem lv 0 i (.int x)).mpr ⟨Nat.zero_le _, h⟩)
  exact lv_iinc hx hb hd hl0 hj (by rw [hv]) (by rw [hN]; exact Nat.le_of_ble_eq_true hn) rfl (fun ls2 h2 => kk H locs ls2 hW hS (lvH.set1 hc h2))
theorem r_iadd (hX : OKX X cc own d loc nL) {x y : Int32} (hd : decode cc pc = .ok (.iadd, 1))  (k : V X I J (pc + 1) lv (.int (x + y) :: st)) : V X I J pc lv (.int y :: .int x :: st) := by
  obtain ⟨hx, hb, -⟩ := hX
  intro H locs ls hW hS hl
  exact lv_iadd hx hb hd  (k H locs ls hW hS hl)
theorem r_isub (hX : OKX X cc own d loc nL) {x y : Int32} (hd : decode cc pc = .ok (.isub, 1))  (k : V X I J (pc + 1) lv (.int (x - y) :: st)) : V X I J pc lv (.int y :: .int x :: st) := by
  obtain ⟨hx, hb, -⟩ := hX
  intro H locs ls hW hS hl
  exact lv_isub hx hb hd  (k H locs ls hW hS hl)
theorem r_imul (hX : OKX X cc own d loc nL) {x y : Int32} (hd : decode cc pc = .ok (.imul, 1))  (k : V X I J (pc + 1) lv (.int (x * y) :: st)) : V X I J pc lv (.int y :: .int x :: st) := by
  obtain ⟨hx, hb, -⟩ := hX
  intro H locs ls hW hS hl
  exact lv_imul hx hb hd  (k H locs ls hW hS hl)
theorem r_iand (hX : OKX X cc own d loc nL) {x y : Int32} (hd : decode cc pc = .ok (.iand, 1))  (k : V X I J (pc + 1) lv (.int (x &&& y) :: st)) : V X I J pc lv (.int y :: .int x :: st) := by
  obtain ⟨hx, hb, -⟩ := hX
  intro H locs ls hW hS hl
  exact lv_iand hx hb hd  (k H locs ls hW hS hl)
theorem r_ior (hX : OKX X cc own d loc nL) {x y : Int32} (hd : decode cc pc = .ok (.ior, 1))  (k : V X I J (pc + 1) lv (.int (x ||| y) :: st)) : V X I J pc lv (.int y :: .int x :: st) := by
  obtain ⟨hx, hb, -⟩ := hX
  intro H locs ls hW hS hl
  exact lv_ior hx hb hd  (k H locs ls hW hS hl)
theorem r_ixor (hX : OKX X cc own d loc nL) {x y : Int32} (hd : decode cc pc = .ok (.ixor, 1))  (k : V X I J (pc + 1) lv (.int (x ^^^ y) :: st)) : V X I J pc lv (.int y :: .int x :: st) := by
  obtain ⟨hx, hb, -⟩ := hX
  intro H locs ls hW hS hl
  exact lv_ixor hx hb hd  (k H locs ls hW hS hl)
theorem r_ishl (hX : OKX X cc own d loc nL) {x y : Int32} (hd : decode cc pc = .ok (.ishl, 1))  (k : V X I J (pc + 1) lv (.int (x <<< (y &&& 31)) :: st)) : V X I J pc lv (.int y :: .int x :: st) := by
  obtain ⟨hx, hb, -⟩ := hX
  intro H locs ls hW hS hl
  exact lv_ishl hx hb hd  (k H locs ls hW hS hl)
theorem r_ishr (hX : OKX X cc own d loc nL) {x y : Int32} (hd : decode cc pc = .ok (.ishr, 1))  (k : V X I J (pc + 1) lv (.int (x >>> (y &&& 31)) :: st)) : V X I J pc lv (.int y :: .int x :: st) := by
  obtain ⟨hx, hb, -⟩ := hX
  intro H locs ls hW hS hl
  exact lv_ishr hx hb hd  (k H locs ls hW hS hl)
theorem r_iushr (hX : OKX X cc own d loc nL) {x y : Int32} (hd : decode cc pc = .ok (.iushr, 1))  (k : V X I J (pc + 1) lv (.int ((x.toUInt32 >>> (y.toUInt32 &&& Int32.toUInt32 31)).toInt32) :: st)) : V X I J pc lv (.int y :: .int x :: st) := by
  obtain ⟨hx, hb, -⟩ := hX
  intro H locs ls hW hS hl
  exact lv_iushr hx hb hd rfl (k H locs ls hW hS hl)
theorem r_ineg (hX : OKX X cc own d loc nL) {x : Int32} (hd : decode cc pc = .ok (.ineg, 1))  (k : V X I J (pc + 1) lv (.int (-x) :: st)) : V X I J pc lv (.int x :: st) := by
  obtain ⟨hx, hb, -⟩ := hX
  intro H locs ls hW hS hl
  exact lv_ineg hx hb hd  (k H locs ls hW hS hl)
/-- the remainder -/
def jrem (x y : Int32) : Int32 := x - x / y * y
def jreml (x y : Int64) : Int64 := x - x / y * y
theorem r_idiv (hX : OKX X cc own d loc nL) {x y : Int32} (hd : decode cc pc = .ok (.idiv, 1)) (h0 : ¬ y = 0) (k : V X I J (pc + 1) lv (.int (x / y) :: st)) : V X I J pc lv (.int y :: .int x :: st) := by
  obtain ⟨hx, hb, -⟩ := hX
  intro H locs ls hW hS hl
  exact lv_idiv hx hb hd h0 (k H locs ls hW hS hl)
theorem r_irem (hX : OKX X cc own d loc nL) {x y : Int32} (hd : decode cc pc = .ok (.irem, 1)) (h0 : ¬ y = 0) (k : V X I J (pc + 1) lv (.int (jrem x y) :: st)) : V X I J pc lv (.int y :: .int x :: st) := by
  obtain ⟨hx, hb, -⟩ := hX
  intro H locs ls hW hS hl
  exact lv_irem hx hb hd h0 (k H locs ls hW hS hl)
theorem r_ladd (hX : OKX X cc own d loc nL) {x y : Int64} (hd : decode cc pc = .ok (.ladd, 1))  (k : V X I J (pc + 1) lv (.long (x + y) :: st)) : V X I J pc lv (.long y :: .long x :: st) := by
  obtain ⟨hx, hb, -⟩ := hX
  intro H locs ls hW hS hl
  exact lv_ladd hx hb hd  (k H locs ls hW hS hl)
theorem r_lsub (hX : OKX X cc own d loc nL) {x y : Int64} (hd : decode cc pc = .ok (.lsub, 1))  (k : V X I J (pc + 1) lv (.long (x - y) :: st)) : V X I J pc lv (.long y :: .long x :: st) := by
  obtain ⟨hx, hb, -⟩ := hX
  intro H locs ls hW hS hl
  exact lv_lsub hx hb hd  (k H locs ls hW hS hl)
theorem r_lmul (hX : OKX X cc own d loc nL) {x y : Int64} (hd : decode cc pc = .ok (.lmul, 1))  (k : V X I J (pc + 1) lv (.long (x * y) :: st)) : V X I J pc lv (.long y :: .long x :: st) := by
  obtain ⟨hx, hb, -⟩ := hX
  intro H locs ls hW hS hl
  exact lv_lmul hx hb hd  (k H locs ls hW hS hl)
theorem r_land (hX : OKX X cc own d loc nL) {x y : Int64} (hd : decode cc pc = .ok (.land, 1))  (k : V X I J (pc + 1) lv (.long (x &&& y) :: st)) : V X I J pc lv (.long y :: .long x :: st) := by
  obtain ⟨hx, hb, -⟩ := hX
  intro H locs ls hW hS hl
  exact lv_land hx hb hd  (k H locs ls hW hS hl)
theorem r_lor (hX : OKX X cc own d loc nL) {x y : Int64} (hd : decode cc pc = .ok (.lor, 1))  (k : V X I J (pc + 1) lv (.long (x ||| y) :: st)) : V X I J pc lv (.long y :: .long x :: st) := by
  obtain ⟨hx, hb, -⟩ := hX
  intro H locs ls hW hS hl
  exact lv_lor hx hb hd  (k H locs ls hW hS hl)
theorem r_ldiv (hX : OKX X cc own d loc nL) {x y : Int64} (hd : decode cc pc = .ok (.ldiv, 1)) (h0 : ¬ y = 0) (k : V X I J (pc + 1) lv (.long (x / y) :: st)) : V X I J pc lv (.long y :: .long x :: st) := by
  obtain ⟨hx, hb, -⟩ := hX
  intro H locs ls hW hS hl
  exact lv_ldiv hx hb hd h0 (k H locs ls hW hS hl)
theorem r_lrem (hX : OKX X cc own d loc nL) {x y : Int64} (hd : decode cc pc = .ok (.lrem, 1)) (h0 : ¬ y = 0) (k : V X I J (pc + 1) lv (.long (jreml x y) :: st)) : V X I J pc lv (.long y :: .long x :: st) := by
  obtain ⟨hx, hb, -⟩ := hX
  intro H locs ls hW hS hl
  exact lv_lrem hx hb hd h0 (k H locs ls hW hS hl)
theorem r_lshl (hX : OKX X cc own d loc nL) {x : Int64} {y : Int32} (hd : decode cc pc = .ok (.lshl, 1))  (k : V X I J (pc + 1) lv (.long (x <<< (y.toInt64 &&& 63)) :: st)) : V X I J pc lv (.int y :: .long x :: st) := by
  obtain ⟨hx, hb, -⟩ := hX
  intro H locs ls hW hS hl
  exact lv_lshl hx hb hd rfl (k H locs ls hW hS hl)
theorem r_lushr (hX : OKX X cc own d loc nL) {x : Int64} {y : Int32} (hd : decode cc pc = .ok (.lushr, 1))  (k : V X I J (pc + 1) lv (.long ((x.toUInt64 >>> (y.toInt64.toUInt64 &&& Int64.toUInt64 63)).toInt64) :: st)) : V X I J pc lv (.int y :: .long x :: st) := by
  obtain ⟨hx, hb, -⟩ := hX
  intro H locs ls hW hS hl
  exact lv_lushr hx hb hd rfl (k H locs ls hW hS hl)
theorem r_i2l (hX : OKX X cc own d loc nL) {x : Int32} (hd : decode cc pc = .ok (.i2l, 1))  (k : V X I J (pc + 1) lv (.long x.toInt64 :: st)) : V X I J pc lv (.int x :: st) := by
  obtain ⟨hx, hb, -⟩ := hX
  intro H locs ls hW hS hl
  exact lv_i2l hx hb hd rfl (k H locs ls hW hS hl)
theorem r_l2i (hX : OKX X cc own d loc nL) {x : Int64} (hd : decode cc pc = .ok (.l2i, 1))  (k : V X I J (pc + 1) lv (.int x.toInt32 :: st)) : V X I J pc lv (.long x :: st) := by
  obtain ⟨hx, hb, -⟩ := hX
  intro H locs ls hW hS hl
  exact lv_l2i hx hb hd rfl (k H locs ls hW hS hl)
theorem r_i2f (hX : OKX X cc own d loc nL) {x : Int32} (hd : decode cc pc = .ok (.i2f, 1))  (k : V X I J (pc + 1) lv (.float (FP.i2f x) :: st)) : V X I J pc lv (.int x :: st) := by
  obtain ⟨hx, hb, -⟩ := hX
  intro H locs ls hW hS hl
  exact lv_i2f hx hb hd  (k H locs ls hW hS hl)
theorem r_f2i (hX : OKX X cc own d loc nL) {x : UInt32} (hd : decode cc pc = .ok (.f2i, 1))  (k : V X I J (pc + 1) lv (.int (FP.f2i x) :: st)) : V X I J pc lv (.float x :: st) := by
  obtain ⟨hx, hb, -⟩ := hX
  intro H locs ls hW hS hl
  exact lv_f2i hx hb hd  (k H locs ls hW hS hl)
theorem r_fsub (hX : OKX X cc own d loc nL) {x y : UInt32} (hd : decode cc pc = .ok (.fsub, 1)) (h0 : vf_n32 (FP.fsub x y)) (k : V X I J (pc + 1) lv (.float (FP.fsub x y) :: st)) : V X I J pc lv (.float y :: .float x :: st) := by
  obtain ⟨hx, hb, -⟩ := hX
  intro H locs ls hW hS hl
  exact lv_fsub hx hb hd h0 (k H locs ls hW hS hl)
theorem r_fmul (hX : OKX X cc own d loc nL) {x y : UInt32} (hd : decode cc pc = .ok (.fmul, 1)) (h0 : vf_n32 (FP.fmul x y)) (k : V X I J (pc + 1) lv (.float (FP.fmul x y) :: st)) : V X I J pc lv (.float y :: .float x :: st) := by
  obtain ⟨hx, hb, -⟩ := hX
  intro H locs ls hW hS hl
  exact lv_fmul hx hb hd h0 (k H locs ls hW hS hl)
theorem r_fdiv (hX : OKX X cc own d loc nL) {x y : UInt32} (hd : decode cc pc = .ok (.fdiv, 1)) (h0 : vf_n32 (FP.fdiv x y)) (k : V X I J (pc + 1) lv (.float (FP.fdiv x y) :: st)) : V X I J pc lv (.float y :: .float x :: st) := by
  obtain ⟨hx, hb, -⟩ := hX
  intro H locs ls hW hS hl
  exact lv_fdiv hx hb hd h0 (k H locs ls hW hS hl)
theorem r_fcmp (hX : OKX X cc own d loc nL) {x y : UInt32} {op : CmpOp} (hd : decode cc pc = .ok (.fcmp op, 1))  (k : V X I J (pc + 1) lv (.int (Op.cmpValue (FP.fcmp x y) op) :: st)) : V X I J pc lv (.float y :: .float x :: st) := by
  obtain ⟨hx, hb, -⟩ := hX
  intro H locs ls hW hS hl
  exact lv_fcmp hx hb hd  (k H locs ls hW hS hl)
theorem r_lcmp (hX : OKX X cc own d loc nL) {x y : Int64} (hd : decode cc pc = .ok (.lcmp, 1)) (k : V X I J (pc + 1) lv (.int (lg_cmp x y) :: st)) : V X I J pc lv (.long y :: .long x :: st) := by
  obtain ⟨hx, hb, -⟩ := hX
  intro H locs ls hW hS hl
  exact W.lcmp hx hb hd (k H locs ls hW hS hl)
theorem r_dup (hX : OKX X cc own d loc nL) {va : Value} (hd : decode cc pc = .ok (.dup, 1)) (hva : va.category = 1) (k : V X I J (pc + 1) lv (va :: va :: st)) : V X I J pc lv (va :: st) := by
  obtain ⟨hx, hb, -⟩ := hX
  intro H locs ls hW hS hl
  exact lv_dup hx hb hd hva (k H locs ls hW hS hl)
theorem r_dup2 (hX : OKX X cc own d loc nL) {va vb : Value} (hd : decode cc pc = .ok (.dup2, 1)) (hva : va.category = 1) (hvb : vb.category = 1) (k : V X I J (pc + 1) lv (va :: vb :: va :: vb :: st)) : V X I J pc lv (va :: vb :: st) := by
  obtain ⟨hx, hb, -⟩ := hX
  intro H locs ls hW hS hl
  exact lv_dup2_11 hx hb hd hva hvb (k H locs ls hW hS hl)
theorem r_pop (hX : OKX X cc own d loc nL) {va : Value} (hd : decode cc pc = .ok (.pop, 1)) (hva : va.category = 1) (k : V X I J (pc + 1) lv (st)) : V X I J pc lv (va :: st) := by
  obtain ⟨hx, hb, -⟩ := hX
  intro H locs ls hW hS hl
  exact lv_pop hx hb hd hva (k H locs ls hW hS hl)
theorem r_goto (hX : OKX X cc own d loc nL) {off : Int} {tgt : Nat} (hd : decode cc pc = .ok (.goto off, 3)) (ht : (pc : Int) + off = (tgt : Int)) (k : V X I J tgt lv st) : V X I J pc lv st := by
  obtain ⟨hx, hb, -⟩ := hX
  intro H locs ls hW hS hl
  exact lv_goto hx hb hd ht (k H locs ls hW hS hl)
theorem i_nle {x y : Int32} (h : ¬ y ≤ x) : x < y := by rw [Int32.lt_iff_toInt_lt]; rw [Int32.le_iff_toInt_le] at h; omega
theorem i_nlt {x y : Int32} (h : y ≤ x) : ¬ x < y := by rw [Int32.lt_iff_toInt_lt]; rw [Int32.le_iff_toInt_le] at h; omega
theorem r_icmp_eq (hX : OKX X cc own d loc nL) {x y : Int32} {off : Int} {tgt : Nat} (hd : decode cc pc = .ok (.if_icmp .eq off, 3)) (ht : (pc : Int) + off = (tgt : Int)) (k1 : x = y → V X I J (tgt) lv st) (k2 : ¬ (x = y) → V X I J (pc + 3) lv st) : V X I J pc lv (.int y :: .int x :: st) := by
  obtain ⟨hx, hb, -⟩ := hX
  intro H locs ls hW hS hl
  exact lv_icmp_eq hx hb hd ht (fun c => k1 c H locs ls hW hS hl) (fun c => k2 c H locs ls hW hS hl)
theorem r_icmp_ne (hX : OKX X cc own d loc nL) {x y : Int32} {off : Int} {tgt : Nat} (hd : decode cc pc = .ok (.if_icmp .ne off, 3)) (ht : (pc : Int) + off = (tgt : Int)) (k1 : x = y → V X I J (pc + 3) lv st) (k2 : ¬ (x = y) → V X I J (tgt) lv st) : V X I J pc lv (.int y :: .int x :: st) := by
  obtain ⟨hx, hb, -⟩ := hX
  intro H locs ls hW hS hl
  exact lv_icmp_ne hx hb hd ht (fun c => k2 c H locs ls hW hS hl) (fun c => k1 c H locs ls hW hS hl)
theorem r_icmp_lt (hX : OKX X cc own d loc nL) {x y : Int32} {off : Int} {tgt : Nat} (hd : decode cc pc = .ok (.if_icmp .lt off, 3)) (ht : (pc : Int) + off = (tgt : Int)) (k1 : x < y → V X I J (tgt) lv st) (k2 : ¬ (x < y) → V X I J (pc + 3) lv st) : V X I J pc lv (.int y :: .int x :: st) := by
  obtain ⟨hx, hb, -⟩ := hX
  intro H locs ls hW hS hl
  exact lv_icmp_lt hx hb hd ht (fun c => k1 c H locs ls hW hS hl) (fun c => k2 c H locs ls hW hS hl)
theorem r_icmp_ge (hX : OKX X cc own d loc nL) {x y : Int32} {off : Int} {tgt : Nat} (hd : decode cc pc = .ok (.if_icmp .ge off, 3)) (ht : (pc : Int) + off = (tgt : Int)) (k1 : x < y → V X I J (pc + 3) lv st) (k2 : ¬ (x < y) → V X I J (tgt) lv st) : V X I J pc lv (.int y :: .int x :: st) := by
  obtain ⟨hx, hb, -⟩ := hX
  intro H locs ls hW hS hl
  exact lv_icmp_ge hx hb hd ht (fun c => k2 (i_nlt c) H locs ls hW hS hl) (fun c => k1 (i_nle c) H locs ls hW hS hl)
theorem r_icmp_gt (hX : OKX X cc own d loc nL) {x y : Int32} {off : Int} {tgt : Nat} (hd : decode cc pc = .ok (.if_icmp .gt off, 3)) (ht : (pc : Int) + off = (tgt : Int)) (k1 : y < x → V X I J (tgt) lv st) (k2 : ¬ (y < x) → V X I J (pc + 3) lv st) : V X I J pc lv (.int y :: .int x :: st) := by
  obtain ⟨hx, hb, -⟩ := hX
  intro H locs ls hW hS hl
  exact lv_icmp_gt hx hb hd ht (fun c => k1 c H locs ls hW hS hl) (fun c => k2 c H locs ls hW hS hl)
theorem r_icmp_le (hX : OKX X cc own d loc nL) {x y : Int32} {off : Int} {tgt : Nat} (hd : decode cc pc = .ok (.if_icmp .le off, 3)) (ht : (pc : Int) + off = (tgt : Int)) (k1 : y < x → V X I J (pc + 3) lv st) (k2 : ¬ (y < x) → V X I J (tgt) lv st) : V X I J pc lv (.int y :: .int x :: st) := by
  obtain ⟨hx, hb, -⟩ := hX
  intro H locs ls hW hS hl
  exact lv_icmp_le hx hb hd ht (fun c => k2 (i_nlt c) H locs ls hW hS hl) (fun c => k1 (i_nle c) H locs ls hW hS hl)
theorem r_if_eq (hX : OKX X cc own d loc nL) {x : Int32} {off : Int} {tgt : Nat} (hd : decode cc pc = .ok (.ifCond .eq off, 3)) (ht : (pc : Int) + off = (tgt : Int)) (k1 : x = 0 → V X I J (tgt) lv st) (k2 : ¬ (x = 0) → V X I J (pc + 3) lv st) : V X I J pc lv (.int x :: st) := by
  obtain ⟨hx, hb, -⟩ := hX
  intro H locs ls hW hS hl
  exact lv_if_eq hx hb hd ht (fun c => k1 c H locs ls hW hS hl) (fun c => k2 c H locs ls hW hS hl)
theorem r_if_ne (hX : OKX X cc own d loc nL) {x : Int32} {off : Int} {tgt : Nat} (hd : decode cc pc = .ok (.ifCond .ne off, 3)) (ht : (pc : Int) + off = (tgt : Int)) (k1 : x = 0 → V X I J (pc + 3) lv st) (k2 : ¬ (x = 0) → V X I J (tgt) lv st) : V X I J pc lv (.int x :: st) := by
  obtain ⟨hx, hb, -⟩ := hX
  intro H locs ls hW hS hl
  exact lv_if_ne hx hb hd ht (fun c => k2 c H locs ls hW hS hl) (fun c => k1 c H locs ls hW hS hl)
theorem r_if_lt (hX : OKX X cc own d loc nL) {x : Int32} {off : Int} {tgt : Nat} (hd : decode cc pc = .ok (.ifCond .lt off, 3)) (ht : (pc : Int) + off = (tgt : Int)) (k1 : x < 0 → V X I J (tgt) lv st) (k2 : ¬ (x < 0) → V X I J (pc + 3) lv st) : V X I J pc lv (.int x :: st) := by
  obtain ⟨hx, hb, -⟩ := hX
  intro H locs ls hW hS hl
  exact lv_if_lt hx hb hd ht (fun c => k1 c H locs ls hW hS hl) (fun c => k2 c H locs ls hW hS hl)
theorem r_if_ge (hX : OKX X cc own d loc nL) {x : Int32} {off : Int} {tgt : Nat} (hd : decode cc pc = .ok (.ifCond .ge off, 3)) (ht : (pc : Int) + off = (tgt : Int)) (k1 : x < 0 → V X I J (pc + 3) lv st) (k2 : ¬ (x < 0) → V X I J (tgt) lv st) : V X I J pc lv (.int x :: st) := by
  obtain ⟨hx, hb, -⟩ := hX
  intro H locs ls hW hS hl
  exact lv_if_ge hx hb hd ht (fun c => k2 (i_nlt c) H locs ls hW hS hl) (fun c => k1 (i_nle c) H locs ls hW hS hl)
theorem r_if_gt (hX : OKX X cc own d loc nL) {x : Int32} {off : Int} {tgt : Nat} (hd : decode cc pc = .ok (.ifCond .gt off, 3)) (ht : (pc : Int) + off = (tgt : Int)) (k1 : 0 < x → V X I J (tgt) lv st) (k2 : ¬ (0 < x) → V X I J (pc + 3) lv st) : V X I J pc lv (.int x :: st) := by
  obtain ⟨hx, hb, -⟩ := hX
  intro H locs ls hW hS hl
  exact lv_if_gt hx hb hd ht (fun c => k1 c H locs ls hW hS hl) (fun c => k2 c H locs ls hW hS hl)
theorem r_if_le (hX : OKX X cc own d loc nL) {x : Int32} {off : Int} {tgt : Nat} (hd : decode cc pc = .ok (.ifCond .le off, 3)) (ht : (pc : Int) + off = (tgt : Int)) (k1 : 0 < x → V X I J (pc + 3) lv st) (k2 : ¬ (0 < x) → V X I J (tgt) lv st) : V X I J pc lv (.int x :: st) := by
  obtain ⟨hx, hb, -⟩ := hX
  intro H locs ls hW hS hl
  exact lv_if_le hx hb hd ht (fun c => k2 (i_nlt c) H locs ls hW hS hl) (fun c => k1 (i_nle c) H locs ls hW hS hl)
theorem r_ifnull_r (hX : OKX X cc own d loc nL) {x : Nat} {off : Int} (hd : decode cc pc = .ok (.ifnull off, 3)) (k : V X I J (pc + 3) lv st) : V X I J pc lv (.ref x :: st) := by
  obtain ⟨hx, hb, -⟩ := hX
  intro H locs ls hW hS hl
  exact lv_ifnull hx hb hd (k H locs ls hW hS hl)
theorem r_ifnull_n (hX : OKX X cc own d loc nL) {off : Int} {tgt : Nat} (hd : decode cc pc = .ok (.ifnull off, 3)) (ht : (pc : Int) + off = (tgt : Int)) (k : V X I J tgt lv st) : V X I J pc lv (.null :: st) := by
  obtain ⟨hx, hb, -⟩ := hX
  intro H locs ls hW hS hl
  exact lv_ifnullN hx hb hd ht (k H locs ls hW hS hl)
theorem r_ifnonnull_r (hX : OKX X cc own d loc nL) {x : Nat} {off : Int} {tgt : Nat} (hd : decode cc pc = .ok (.ifnonnull off, 3)) (ht : (pc : Int) + off = (tgt : Int)) (k : V X I J tgt lv st) : V X I J pc lv (.ref x :: st) := by
  obtain ⟨hx, hb, -⟩ := hX
  intro H locs ls hW hS hl
  exact lv_ifnonnull hx hb hd ht (k H locs ls hW hS hl)
theorem r_ifnonnull_n (hX : OKX X cc own d loc nL) {off : Int} (hd : decode cc pc = .ok (.ifnonnull off, 3)) (k : V X I J (pc + 3) lv st) : V X I J pc lv (.null :: st) := by
  obtain ⟨hx, hb, -⟩ := hX
  intro H locs ls hW hS hl
  exact lv_ifnonnullN hx hb hd (k H locs ls hW hS hl)
theorem r_tsw (hX : OKX X cc own d loc nL) {dflt lo hi : Int} {offs : Array Int} {len : Nat} {x : Int32} {off : Int} {tgt : Nat} (v : Int32) (hd : decode cc pc = .ok (.tableswitch dflt lo hi offs, len)) (hc : x = v) (h1 : ¬ v.toInt < lo) (h2 : ¬ hi < v.toInt) (ho : offs[(v.toInt - lo).toNat]? = some off) (ht : (pc : Int) + off = (tgt : Int)) (k : V X I J tgt lv st) : V X I J pc lv (.int x :: st) := by
  subst hc
  obtain ⟨hx, hb, -⟩ := hX
  intro H locs ls hW hS hl
  exact lv_tableIn hx hb hd h1 h2 ho ht (k H locs ls hW hS hl)
theorem r_tswD (hX : OKX X cc own d loc nL) {dflt lo hi : Int} {offs : Array Int} {len : Nat} {x : Int32} {tgt : Nat} (hd : decode cc pc = .ok (.tableswitch dflt lo hi offs, len)) (vs : List Int32) (hvs : vs.map Int32.toInt = (List.range (hi - lo + 1).toNat).map (fun k : Nat => lo + (k : Int))) (hc : ∀ v ∈ vs, ¬ x = v) (ht : (pc : Int) + dflt = (tgt : Int)) (k : V X I J tgt lv st) : V X I J pc lv (.int x :: st) := by
  obtain ⟨hx, hb, -⟩ := hX
  intro H locs ls hW hS hl
  refine lv_tableOut hx hb hd ?_ ht (k H locs ls hW hS hl)
  refine Classical.byContradiction fun hno => ?_
  have hm : x.toInt ∈ vs.map Int32.toInt := by
    rw [hvs]
    refine List.mem_map.mpr ⟨(x.toInt - lo).toNat, List.mem_range.mpr (by omega), by omega⟩
  obtain ⟨v, hv, e⟩ := List.mem_map.mp hm
  exact hc v hv (Int32.toInt_inj.mp e).symm
theorem r_lsw (hX : OKX X cc own d loc nL) {dflt : Int} {ps : Array (Int × Int)} {len : Nat} {x : Int32} {off : Int} {tgt : Nat} (hd : decode cc pc = .ok (.lookupswitch dflt ps, len)) (hp : (ps.toList.zip (ps.toList.drop 1)).all (fun (a, next) => a.1 < next.1) = true) (ho : Op.lookupswitch.offset ps.toList dflt x.toInt = off) (ht : (pc : Int) + off = (tgt : Int)) (k : V X I J tgt lv st) : V X I J pc lv (.int x :: st) := by
  obtain ⟨hx, hb, -⟩ := hX
  intro H locs ls hW hS hl
  exact lv_lookup hx hb hd hp ho ht (k H locs ls hW hS hl)
end Rows
end
section
/-! heap rows over the shadow state -/
def CPk (ci : Nat) (C : String) (T : u_T) (N : Nat) (ty : Nat → FieldType) : Prop := vwCl[ci]? = some (C, T, N) ∧ (∀ w ∈ u_ws C T N, w ∈ gTbl) ∧ (∀ k, k < N → parseFieldDescriptor (T k).2.2.1 = some (ty k)) ∧ (∀ a, a < N → ∀ b, b < N → a ≠ b → (T a).2.1 ≠ (T b).2.1)
theorem eK_cls {G : GX} {I : HI} {J : HJ} {a kd ci : Nat} (hk : gK G a = kd) (h1 : kd = ci + 1) (h2 : Nat.blt kd 10 = true) : eK G I J a = .inr (ci, fsR (I a) (J a) a kd) := by
  subst h1
  have h3 : gK G a < 10 := by rw [hk]; exact Nat.le_of_ble_eq_true h2
  unfold eK eR
  rw [if_pos h3, hk]
  rfl
theorem eK_int {G : GX} {I : HI} {J : HJ} {a kd n : Nat} (hk : gK G a = kd) (h1 : kd = 100 + n) : eK G I J a = .inl (gcI G, n, .inl (I a)) := by
  subst h1
  unfold eK eR
  rw [if_neg (by rw [hk]; omega), if_neg (by rw [hk]; omega), if_neg (by rw [hk]; omega), if_neg (by rw [hk]; omega), if_neg (by rw [hk]; omega), hk, Nat.add_sub_cancel_left]
theorem eK_bool {G : GX} {I : HI} {J : HJ} {a kd n : Nat} (hk : gK G a = kd) (h1 : kd = 50 + n) (h2 : Nat.blt n 50 = true) : eK G I J a = .inl (gcZ G, n, .inl (I a)) := by
  subst h1
  have h3 : n < 50 := Nat.le_of_ble_eq_true h2
  unfold eK eR
  rw [if_neg (by rw [hk]; omega), if_neg (by rw [hk]; omega), if_neg (by rw [hk]; omega), if_neg (by rw [hk]; omega), if_pos (by rw [hk]; omega), hk, Nat.add_sub_cancel_left]
theorem eK_10 {G : GX} {I : HI} {J : HJ} {a : Nat} (hk : gK G a = 10) : eK G I J a = .inl (gcP G, 4, .inr (.inr (.inr (.inr (fun i => some (a + 1 + 3 * i)))))) := by
  unfold eK eR
  rw [if_neg (by rw [hk]; omega), if_pos hk]
theorem eK_11 {G : GX} {I : HI} {J : HJ} {a : Nat} (hk : gK G a = 11) : eK G I J a = .inl (gcN G, 14, .inr (.inr (.inr (.inr (fun i => some (a + 1 + 17 * i)))))) := by
  unfold eK eR
  rw [if_neg (by rw [hk]; omega), if_neg (by rw [hk]; omega), if_pos hk]
theorem eK_12 {G : GX} {I : HI} {J : HJ} {a : Nat} (hk : gK G a = 12) : eK G I J a = .inl (gcN G, 2, .inr (.inr (.inr (.inr (fun i => some (a + 10 + 17 * i)))))) := by
  unfold eK eR
  rw [if_neg (by rw [hk]; omega), if_neg (by rw [hk]; omega), if_neg (by rw [hk]; omega), if_pos hk]
theorem up_eK {G : GX} {I : HI} {J : HJ} {a k : Nat} {v : Int32} {e : va_E} (h : e = eR G (uR (I a) k v) (J a) a) (b : Nat) : va_up (eK G I J) a e b = eK G (sI I a k v) J b := by
  unfold va_up eK sI
  by_cases hb : b = a
  · subst hb; simp [h]
  · simp [hb]
theorem up_eJ {G : GX} {I : HI} {J : HJ} {a : Nat} {v : Int64} {e : va_E} (h : e = eR G (I a) v a) (b : Nat) : va_up (eK G I J) a e b = eK G I (sJ J a v) b := by
  unfold va_up eK sJ
  by_cases hb : b = a
  · subst hb; simp [h]
  · simp [hb]
theorem eR_cls {G : GX} {f : Nat → Int32} {j : Int64} {a kd ci : Nat} (hk : gK G a = kd) (h1 : kd = ci + 1) (h2 : Nat.blt kd 10 = true) : eR G f j a = .inr (ci, fsR f j a kd) := eK_cls (G := G) (I := fun _ => f) (J := fun _ => j) hk h1 h2
theorem pl_D {G : GX} (hG : OKG G) {A : Nat → Prop} (hA : ∀ q ∈ gL G, A q) (f : Nat → va_E) : va_D A (va_pl (gL G) f) := by
  refine ⟨fun i j p q hi hj e => ?_, fun k q hk => ?_⟩
  · unfold va_pl at hi hj
    rw [List.getElem?_map] at hi hj
    cases h1 : (gL G)[i]? with
    | none => rw [h1] at hi; cases hi
    | some x =>
      cases h2 : (gL G)[j]? with
      | none => rw [h2] at hj; cases hj
      | some y =>
        rw [h1] at hi; rw [h2] at hj
        cases hi; cases hj
        obtain ⟨l1, e1⟩ := List.getElem?_eq_some_iff.mp h1
        obtain ⟨l2, e2⟩ := List.getElem?_eq_some_iff.mp h2
        have e3 : (gL G)[i] = (gL G)[j] := by rw [e1, e2]; exact e
        have hn := List.pairwise_iff_getElem.mp hG.1
        rcases Nat.lt_trichotomy i j with h | h | h
        · exact absurd e3 (hn i j l1 l2 h)
        · exact h
        · exact absurd e3.symm (hn j i l2 l1 h)
  · unfold va_pl at hk
    rw [List.getElem?_map] at hk
    cases h1 : (gL G)[k]? with
    | none => rw [h1] at hk; cases hk
    | some x => rw [h1] at hk; cases hk; exact hA x (List.mem_of_getElem? h1)
theorem Wd.set {G : GX} {I I' : HI} {J J' : HJ} (hG : OKG G) {a q0 : Nat} {e : va_E} {H1 : Heap} (hm : a ∈ gL G) (hq : (va_pl (gL G) (eK G I J))[q0]? = some (a, eK G I J a)) (hP : va_P (gD G) vwCl ((va_pl (gL G) (eK G I J)).set q0 (a, e)) H1) (he : ∀ b, va_up (eK G I J) a e b = eK G I' J' b) : Wd G I' J' H1 := by
  have h1 := va_pl_set (A := fun _ => True) (X := []) (L := gL G) (f := eK G I J) (a := a) (k := q0) (e := e) (pl_D hG (fun _ _ => trivial) _) hm hq
  have h2 : (va_pl (gL G) (eK G I J)).set q0 (a, e) = va_pl (gL G) (eK G I' J') := h1.trans (va_pl_congr he)
  unfold Wd
  rw [← h2]
  exact hP
theorem Wd.at {G : GX} {I : HI} {J : HJ} {a : Nat} (hm : a ∈ gL G) : ∃ q0 : Nat, (va_pl (gL G) (eK G I J))[q0]? = some (a, eK G I J a) := va_pl_get (X := []) hm
/-- a boolean -/
def zb (x : Int32) : Prop := x = 0 ∨ x = 1
theorem zb_nar {x : Int32} (h : zb x) : vp_nar .boolean x = x := by rcases h with rfl | rfl <;> rfl
theorem zb_0 : zb 0 := Or.inl rfl
theorem zb_1 : zb 1 := Or.inr rfl
section RowsH
variable {X : CX} {I : HI} {J : HJ} {pc : Nat} {lv : List (Option Value)} {st : List Value} {cc : ByteArray} {own : String} {d loc nL : Nat}
theorem r_get (hX : OKX X cc own d loc nL) {ci kd a k idx : Nat} {C : String} {T : u_T} {N : Nat} {ty : Nat → FieldType} {v : Value} (hC : CPk ci C T N ty) (hlink : Cond.fieldLink own idx (T k).1 (T k).2.1 (T k).2.2.1 ∈ gTbl) (hkN : Nat.blt k N = true) (hkd : kd = ci + 1) (h10 : Nat.blt kd 10 = true) (hk : gK (xG X) a = kd) (hv : (fsR (I a) (J a) a kd)[k]? = some v) (hd : decode cc pc = .ok (.getfield idx, 3)) (kk : V X I J (pc + 3) lv (v :: st)) : V X I J pc lv (.ref a :: st) := by
  obtain ⟨hx, hb, -, ho, hts, hK, hG, -⟩ := hX
  intro H locs ls hW hS hl
  have hm : a ∈ gL (xG X) := hG.2.1 a (by rw [hk, hkd]; exact Nat.succ_ne_zero _)
  obtain ⟨q0, hq⟩ := Wd.at (I := I) (J := J) hm
  rw [eK_cls hk hkd h10] at hq
  exact va_get hx hb hts hC.2.1 ho hK hW q0 hq hC.1 k (Nat.le_of_ble_eq_true hkN) (hts _ hlink) (fun _ h => h) hv hd (kk H locs ls hW hS hl)
theorem r_put (hX : OKX X cc own d loc nL) {ci kd a k idx : Nat} {C : String} {T : u_T} {N : Nat} {ty : Nat → FieldType} {x : Int32} (hC : CPk ci C T N ty) (hlink : Cond.fieldLink own idx (T k).1 (T k).2.1 (T k).2.2.1 ∈ gTbl) (hkN : Nat.blt k N = true) (hkd : kd = ci + 1) (h10 : Nat.blt kd 10 = true) (hfin : (T k).2.2.2 = false) (hty : parseFieldDescriptor (T k).2.2.1 = some .int) (hl0 : ∀ f j, k < (fsR f j a kd).length) (hf : ∀ f j, (fsR f j a kd).set k (.int x) = fsR (uR f k x) j a kd) (hk : gK (xG X) a = kd) (hd : decode cc pc = .ok (.putfield idx, 3)) (kk : V X (sI I a k x) J (pc + 3) lv st) : V X I J pc lv (.int x :: .ref a :: st) := by
  obtain ⟨hx, hb, -, ho, hts, hK, hG, hA, -⟩ := hX
  intro H locs ls hW hS hl
  have hm : a ∈ gL (xG X) := hG.2.1 a (by rw [hk, hkd]; exact Nat.succ_ne_zero _)
  obtain ⟨q0, hq⟩ := Wd.at (I := I) (J := J) hm
  have hq2 := hq
  rw [eK_cls hk hkd h10] at hq2
  refine va_put hx hb hts hC.2.1 ty hC.2.2.1 hC.2.2.2 ho hK hW (pl_D hG hA _) hS q0 hq2 hC.1 k (Nat.le_of_ble_eq_true hkN) (hts _ hlink) (fun _ h => h) hfin hty rfl rfl (hl0 _ _) hd (fun H1 locs1 hP1 hD1 hS1 => kk H1 locs1 ls (Wd.set hG hm hq hP1 (up_eK ?_)) hS1 hl)
  rw [eR_cls hk hkd h10, hf]
theorem r_putJ (hX : OKX X cc own d loc nL) {ci kd a k idx : Nat} {C : String} {T : u_T} {N : Nat} {ty : Nat → FieldType} {x : Int64} (hC : CPk ci C T N ty) (hlink : Cond.fieldLink own idx (T k).1 (T k).2.1 (T k).2.2.1 ∈ gTbl) (hkN : Nat.blt k N = true) (hkd : kd = ci + 1) (h10 : Nat.blt kd 10 = true) (hfin : (T k).2.2.2 = false) (hty : parseFieldDescriptor (T k).2.2.1 = some .long) (hl0 : ∀ f j, k < (fsR f j a kd).length) (hf : ∀ f j, (fsR f j a kd).set k (.long x) = fsR f x a kd) (hk : gK (xG X) a = kd) (hd : decode cc pc = .ok (.putfield idx, 3)) (kk : V X I (sJ J a x) (pc + 3) lv st) : V X I J pc lv (.long x :: .ref a :: st) := by
  obtain ⟨hx, hb, -, ho, hts, hK, hG, hA, -⟩ := hX
  intro H locs ls hW hS hl
  have hm : a ∈ gL (xG X) := hG.2.1 a (by rw [hk, hkd]; exact Nat.succ_ne_zero _)
  obtain ⟨q0, hq⟩ := Wd.at (I := I) (J := J) hm
  have hq2 := hq
  rw [eK_cls hk hkd h10] at hq2
  refine va_put hx hb hts hC.2.1 ty hC.2.2.1 hC.2.2.2 ho hK hW (pl_D hG hA _) hS q0 hq2 hC.1 k (Nat.le_of_ble_eq_true hkN) (hts _ hlink) (fun _ h => h) hfin hty rfl rfl (hl0 _ _) hd (fun H1 locs1 hP1 hD1 hS1 => kk H1 locs1 ls (Wd.set hG hm hq hP1 (up_eJ ?_)) hS1 hl)
  rw [eR_cls hk hkd h10, hf]
theorem r_iald (hX : OKX X cc own d loc nL) {a kn n : Nat} {i : Int32} (hn : kn = 100 + n) (hk : gK (xG X) a = kn) (hin : vp_in i n) (hd : decode cc pc = .ok (.iaload, 1)) (kk : V X I J (pc + 1) lv (.int (I a i.toNatClampNeg) :: st)) : V X I J pc lv (.int i :: .ref a :: st) := by
  obtain ⟨hx, hb, -, ho, hts, hK, hG, -⟩ := hX
  intro H locs ls hW hS hl
  have hm : a ∈ gL (xG X) := hG.2.1 a (by rw [hk]; omega)
  obtain ⟨q0, hq⟩ := Wd.at (I := I) (J := J) hm
  rw [eK_int hk hn] at hq
  exact va_iald hx hb hK hW q0 0 hq rfl hin hd (kk H locs ls hW hS hl)
theorem r_zald (hX : OKX X cc own d loc nL) {a kn n : Nat} {i : Int32} (hn : kn = 50 + n) (hn2 : Nat.blt n 50 = true) (hk : gK (xG X) a = kn) (hin : vp_in i n) (hd : decode cc pc = .ok (.baload, 1)) (kk : V X I J (pc + 1) lv (.int (I a i.toNatClampNeg) :: st)) : V X I J pc lv (.int i :: .ref a :: st) := by
  obtain ⟨hx, hb, -, ho, hts, hK, hG, -⟩ := hX
  intro H locs ls hW hS hl
  have hm : a ∈ gL (xG X) := hG.2.1 a (by rw [hk]; omega)
  obtain ⟨q0, hq⟩ := Wd.at (I := I) (J := J) hm
  rw [eK_bool hk hn hn2] at hq
  exact va_zald hx hb hK hW q0 1 hq rfl hin hd (kk H locs ls hW hS hl)
theorem r_iast (hX : OKX X cc own d loc nL) {a kn n : Nat} {i x : Int32} (hn : kn = 100 + n) (hk : gK (xG X) a = kn) (hin : vp_in i n) (hd : decode cc pc = .ok (.iastore, 1)) (kk : V X (sI I a i.toNatClampNeg x) J (pc + 1) lv st) : V X I J pc lv (.int x :: .int i :: .ref a :: st) := by
  obtain ⟨hx, hb, -, ho, hts, hK, hG, hA, -⟩ := hX
  intro H locs ls hW hS hl
  have hm : a ∈ gL (xG X) := hG.2.1 a (by rw [hk]; omega)
  obtain ⟨q0, hq⟩ := Wd.at (I := I) (J := J) hm
  have hq2 := hq
  rw [eK_int hk hn] at hq2
  refine va_iast hx hb hK hW (pl_D hG hA _) hS q0 0 hq2 rfl hin hd (fun H1 locs1 hP1 hD1 hS1 => kk H1 locs1 ls (Wd.set hG hm hq hP1 (up_eK ?_)) hS1 hl)
  exact (eK_int (G := xG X) (I := fun _ => uR (I a) i.toNatClampNeg x) (J := J) hk hn).symm
theorem r_zast (hX : OKX X cc own d loc nL) {a kn n : Nat} {i x : Int32} (hn : kn = 50 + n) (hn2 : Nat.blt n 50 = true) (hk : gK (xG X) a = kn) (hin : vp_in i n) (hz : zb x) (hd : decode cc pc = .ok (.bastore, 1)) (kk : V X (sI I a i.toNatClampNeg x) J (pc + 1) lv st) : V X I J pc lv (.int x :: .int i :: .ref a :: st) := by
  obtain ⟨hx, hb, -, ho, hts, hK, hG, hA, -⟩ := hX
  intro H locs ls hW hS hl
  have hm : a ∈ gL (xG X) := hG.2.1 a (by rw [hk]; omega)
  obtain ⟨q0, hq⟩ := Wd.at (I := I) (J := J) hm
  have hq2 := hq
  rw [eK_bool hk hn hn2] at hq2
  refine va_zast hx hb hK hW (pl_D hG hA _) hS q0 1 hq2 rfl hin hd (fun H1 locs1 hP1 hD1 hS1 => kk H1 locs1 ls (Wd.set hG hm hq hP1 (up_eK ?_)) hS1 hl)
  rw [zb_nar hz]
  exact (eK_bool (G := xG X) (I := fun _ => uR (I a) i.toNatClampNeg x) (J := J) hk hn hn2).symm
theorem r_alen (hX : OKX X cc own d loc nL) {a kn n : Nat} {v : Int32} (hn : kn = 100 + n) (hk : gK (xG X) a = kn) (hv : Int32.ofNat n = v) (hd : decode cc pc = .ok (.arraylength, 1)) (kk : V X I J (pc + 1) lv (.int v :: st)) : V X I J pc lv (.ref a :: st) := by
  obtain ⟨hx, hb, -, ho, hts, hK, hG, -⟩ := hX
  intro H locs ls hW hS hl
  have hm : a ∈ gL (xG X) := hG.2.1 a (by rw [hk]; omega)
  obtain ⟨q0, hq⟩ := Wd.at (I := I) (J := J) hm
  rw [eK_int hk hn] at hq
  exact va_alen hx hb hK hW q0 0 hq rfl hv hd (kk H locs ls hW hS hl)
theorem r_zlen (hX : OKX X cc own d loc nL) {a kn n : Nat} {v : Int32} (hn : kn = 50 + n) (hn2 : Nat.blt n 50 = true) (hk : gK (xG X) a = kn) (hv : Int32.ofNat n = v) (hd : decode cc pc = .ok (.arraylength, 1)) (kk : V X I J (pc + 1) lv (.int v :: st)) : V X I J pc lv (.ref a :: st) := by
  obtain ⟨hx, hb, -, ho, hts, hK, hG, -⟩ := hX
  intro H locs ls hW hS hl
  have hm : a ∈ gL (xG X) := hG.2.1 a (by rw [hk]; omega)
  obtain ⟨q0, hq⟩ := Wd.at (I := I) (J := J) hm
  rw [eK_bool hk hn hn2] at hq
  exact va_alen hx hb hK hW q0 1 hq rfl hv hd (kk H locs ls hW hS hl)
/-- an array of references: its length, the address of its first cell's object, the distance to the next -/
def RA (G : GX) (a n e0 ds : Nat) : Prop := (gK G a = 10 ∧ n = 4 ∧ e0 = a + 1 ∧ ds = 3) ∨ (gK G a = 11 ∧ n = 14 ∧ e0 = a + 1 ∧ ds = 17) ∨ (gK G a = 12 ∧ n = 2 ∧ e0 = a + 10 ∧ ds = 17)
theorem r_qlen (hX : OKX X cc own d loc nL) {a n e0 ds : Nat} {v : Int32} (hk : RA (xG X) a n e0 ds) (hv : Int32.ofNat n = v) (hd : decode cc pc = .ok (.arraylength, 1)) (kk : V X I J (pc + 1) lv (.int v :: st)) : V X I J pc lv (.ref a :: st) := by
  obtain ⟨hx, hb, -, ho, hts, hK, hG, -⟩ := hX
  intro H locs ls hW hS hl
  rcases hk with ⟨hk, rfl, rfl, rfl⟩ | ⟨hk, rfl, rfl, rfl⟩ | ⟨hk, rfl, rfl, rfl⟩
  · have hm : a ∈ gL (xG X) := hG.2.1 a (by rw [hk]; omega)
    obtain ⟨q0, hq⟩ := Wd.at (I := I) (J := J) hm
    rw [eK_10 hk] at hq
    exact va_alen hx hb hK hW q0 2 hq rfl hv hd (kk H locs ls hW hS hl)
  · have hm : a ∈ gL (xG X) := hG.2.1 a (by rw [hk]; omega)
    obtain ⟨q0, hq⟩ := Wd.at (I := I) (J := J) hm
    rw [eK_11 hk] at hq
    exact va_alen hx hb hK hW q0 3 hq rfl hv hd (kk H locs ls hW hS hl)
  · have hm : a ∈ gL (xG X) := hG.2.1 a (by rw [hk]; omega)
    obtain ⟨q0, hq⟩ := Wd.at (I := I) (J := J) hm
    rw [eK_12 hk] at hq
    exact va_alen hx hb hK hW q0 3 hq rfl hv hd (kk H locs ls hW hS hl)
theorem r_aald (hX : OKX X cc own d loc nL) {a n e0 ds : Nat} {i : Int32} (hk : RA (xG X) a n e0 ds) (hin : vp_in i n) (hd : decode cc pc = .ok (.aaload, 1)) (kk : V X I J (pc + 1) lv (.ref (e0 + ds * i.toNatClampNeg) :: st)) : V X I J pc lv (.int i :: .ref a :: st) := by
  obtain ⟨hx, hb, -, ho, hts, hK, hG, -⟩ := hX
  intro H locs ls hW hS hl
  rcases hk with ⟨hk, rfl, rfl, rfl⟩ | ⟨hk, rfl, rfl, rfl⟩ | ⟨hk, rfl, rfl, rfl⟩
  · have hm : a ∈ gL (xG X) := hG.2.1 a (by rw [hk]; omega)
    obtain ⟨q0, hq⟩ := Wd.at (I := I) (J := J) hm
    rw [eK_10 hk] at hq
    exact va_aldq hx hb hK hW q0 2 hq rfl hin hd (kk H locs ls hW hS hl)
  · have hm : a ∈ gL (xG X) := hG.2.1 a (by rw [hk]; omega)
    obtain ⟨q0, hq⟩ := Wd.at (I := I) (J := J) hm
    rw [eK_11 hk] at hq
    exact va_aldq hx hb hK hW q0 3 hq rfl hin hd (kk H locs ls hW hS hl)
  · have hm : a ∈ gL (xG X) := hG.2.1 a (by rw [hk]; omega)
    obtain ⟨q0, hq⟩ := Wd.at (I := I) (J := J) hm
    rw [eK_12 hk] at hq
    exact va_aldq hx hb hK hW q0 3 hq rfl hin hd (kk H locs ls hW hS hl)
end RowsH
theorem vp_in_lt {i : Int32} {n : Nat} (h : vp_in i n) : i.toNatClampNeg < n := Nat.not_le.mp fun q => h (Or.inr q)
/-- what a method says: from the shadow state I, J it answers vo and leaves I', J' -/
def Ctr (G : GX) (l : Launch) (z : MethodName) (bytes : ByteArray) (maxL : Nat) (ret : Option FieldType) (d loc : Nat) (as : List Value) (I : HI) (J : HJ) (vo : Option Value) (I' : HI) (J' : HJ) : Prop :=
  Met l z (.code z bytes maxL ret :: gTbl) { frames := d, cells := 0, slots := 0, locals := loc } (va_Pc as (fun U => (va_K (gD G) vwCl (gT G) U ∧ NW U) ∧ Wd G I J U.heap)) (fun _ s0 oc t => oc = .returned vo ∧ Wd G I' J' t.heap ∧ va_F (fun q => q ∈ gL G) s0 t) 0 0 (fun q => q ∈ gL G)
theorem gAW : ∀ w ∈ gTbl, goodWord w = true := fun w h => (List.mem_filter.mp h).2
theorem gAll : GoodIn gTbl gTbl := fun w h => ⟨h, good_of_word (gAW w h)⟩
theorem gIn_app {big a b : List Cond} (ha : GoodIn big a) (hb : GoodIn big b) : GoodIn big (a ++ b) := fun w h => (List.mem_append.mp h).elim (ha w) (hb w)
/-- the words of a method that is called: instance, static -/
def MPI (z : MethodName) (bytes : ByteArray) (maxL : Nat) (ret : Option FieldType) (n : Nat) : Prop := Cond.instanceMethod z ∈ gTbl ∧ Cond.selects z.cls z z ∈ gTbl ∧ Cond.initialized z.cls ∈ gTbl ∧ Cond.code z bytes maxL ret ∈ gTbl ∧ z.cls ≠ "java/lang/invoke/MethodHandle" ∧ z.cls ≠ "java/lang/invoke/VarHandle" ∧ (parseMethodDescriptor z.desc).map (fun d => d.parameters.length) = some n
def MPS (z : MethodName) (bytes : ByteArray) (maxL : Nat) (ret : Option FieldType) (n : Nat) : Prop := Cond.static z ∈ gTbl ∧ Cond.initialized z.cls ∈ gTbl ∧ Cond.code z bytes maxL ret ∈ gTbl ∧ z.cls ≠ "java/lang/invoke/MethodHandle" ∧ z.cls ≠ "java/lang/invoke/VarHandle" ∧ (parseMethodDescriptor z.desc).map (fun d => d.parameters.length) = some n
theorem gCode {z : MethodName} {bytes : ByteArray} {maxL : Nat} {ret : Option FieldType} (h : Cond.code z bytes maxL ret ∈ gTbl) : GoodIn gTbl (.code z bytes maxL ret :: gTbl) := fun w hw => (List.mem_cons.mp hw).elim (fun e => e ▸ gAll _ h) (gAll w)
theorem NW.warm {s U : State} (hW : s.WarmedH U.vm) (h : NW s) : NW U := fun q hq => va_Nw.warmM hW (h q hq)
theorem fb_Pc {G : GX} {as : List Value} {I : HI} {J : HJ} : FrameBlind (va_Pc as (fun U => (va_K (gD G) vwCl (gT G) U ∧ NW U) ∧ Wd G I J U.heap)) := fun a U g mk q => ⟨q.1, ⟨va_K.moved (u := U) (U := U.calling g mk a) (Vm.Alike.refl U.vm) q.2.1.1, fun w hw => va_Nw.same rfl (u := U) (U := U.calling g mk a) rfl (q.2.1.2 w hw)⟩, q.2.2⟩
section Calls2
variable {X : CX} {I I' : HI} {J J' : HJ} {pc : Nat} {lv : List (Option Value)} {st st0 : List Value} {cc : ByteArray} {own : String} {d loc nL : Nat} {vo : Option Value}
theorem V.run (hX : OKX X cc own d loc nL) {a : Array Value} {Qx : Array Value → State → Outcome → State → Prop} (hQ : Qx = fun _ s0 oc t => oc = .returned vo ∧ Wd (xG X) I' J' t.heap ∧ va_F (fun q => q ∈ gL (xG X)) s0 t)
    (hr : ∀ (H : Heap) (locs : List Loc) (ls : Array Slot), Wd (xG X) I J H → ls.size = nL → va_Run (xp X) (xl X) (xe X) (xR X) (xs X) (xm X) (xa X) (xb X) (xM X) (xc X) H locs (xk X) (xn X) 0 0 (F0 (xm X) pc ls st0) st (Qx a) (fun q => q ∈ gL (xG X)))
    (kk : V X I' J' (pc + 3) lv (vo.toList ++ st)) : V X I J pc lv st0 := by
  obtain ⟨-, -, -, -, -, -, -, hA, hN, -⟩ := hX
  subst hQ
  intro H locs ls hW hS hl T hT Xs
  obtain ⟨v, s0, t, T', L, h0, X', hL, e1, e2, ⟨hv, hw, hz, hq⟩, stp⟩ := hr H locs ls hW (by rw [← hN]; exact hl.1) T hT Xs
  cases hv
  rw [h0] at hz hq
  obtain ⟨t2, a1, b1⟩ := kk T'.heap (locs ++ L) ls (by rw [e1]; exact hw)
    ⟨Nat.le_trans hS.1 (by rw [e1]; exact hz), fun q h1 h2 => by rw [e1, hq q (Nat.lt_of_lt_of_le h1 hS.1) (fun z => h2 (hA q z))]; exact hS.2.1 q h1 h2, fun q hq => by
      rcases List.mem_append.mp hq with h | h
      · exact hS.2.2 q h
      · exact hA _ (hL q h)⟩ hl T' rfl X'
  exact ⟨t2, stp t2 a1, b1⟩
theorem r_callV (hX : OKX X cc own d loc nL) {z : MethodName} {bytes : ByteArray} {maxL : Nat} {ret : Option FieldType} {dz locz n idx b ci kd : Nat} {As : List Value} {q : vw_C} (hc : Ctr (xG X) (xl X) z bytes maxL ret dz locz (.ref b :: As) I J vo I' J') (hp : MPI z bytes maxL ret n) (hl : Cond.methodLink own idx z ∈ gTbl) (hcl : vwCl[ci]? = some q) (hq : q.1 = z.cls) (hkd : kd = ci + 1) (h10 : Nat.blt kd 10 = true) (hk : gK (xG X) b = kd) (hn : As.length = n) (hr : (Nat.ble (dz + 1) d && Nat.ble (8 + (maxL + 11) + locz) loc) = true) (hst : st0 = As.reverse ++ .ref b :: st) (hw : (st.map fun v => v.category).sum ≤ 8) (hd : decode cc pc = .ok (.invokevirtual idx, 3)) (kk : V X I' J' (pc + 3) lv (vo.toList ++ st)) : V X I J pc lv st0 := by
  refine V.run hX rfl (a := (Value.ref b :: As).toArray) (fun H locs ls hW hls => ?_) kk
  obtain ⟨hx, hb, hml, ho, hts, hK, hG, hA, hN, hfr, hlo, hce, hsl, hNW⟩ := hX
  rw [Bool.and_eq_true] at hr
  have hr1 := Nat.le_of_ble_eq_true hr.1
  have hr2 := Nat.le_of_ble_eq_true hr.2
  have hm : b ∈ gL (xG X) := hG.2.1 b (by rw [hk, hkd]; exact Nat.succ_ne_zero _)
  obtain ⟨q0, hq0⟩ := Wd.at (I := I) (J := J) hm
  rw [eK_cls hk hkd h10] at hq0
  have hrc := va_recv hK hW hcl hq0
  rw [hq] at hrc
  exact va_runV ⟨hx, hb, hml, ho, hts⟩ hc (cwV n hts (gIn_app (fun w h => by
      simp only [List.mem_cons, List.not_mem_nil, or_false] at h
      rcases h with rfl | rfl | rfl | rfl
      · exact gAll _ hl
      · exact gAll _ hp.1
      · exact gAll _ hp.2.1
      · exact gAll _ hp.2.2.1) (gCode hp.2.2.2.1)) rfl rfl rfl ⟨rfl, hp.2.2.2.2⟩ ⟨Nat.le_trans hr1 hfr, Nat.le_trans hr2 hlo⟩)
    ⟨fb_Pc, hrc, fun U hU hWU => ⟨rfl, ⟨va_K.moved hWU.alike hK, NW.warm hWU hNW⟩, by rw [hU]; exact hW⟩⟩ rfl hn hls hst (lv_room hw) hd ⟨hce, hsl⟩
theorem r_callS (hX : OKX X cc own d loc nL) {z : MethodName} {bytes : ByteArray} {maxL : Nat} {ret : Option FieldType} {dz locz n idx : Nat} {As : List Value} (hc : Ctr (xG X) (xl X) z bytes maxL ret dz locz As I J vo I' J') (hp : MPS z bytes maxL ret n) (hl : Cond.methodLink own idx z ∈ gTbl) (hn : As.length = n) (hr : (Nat.ble (dz + 1) d && Nat.ble (8 + (maxL + 11) + locz) loc) = true) (hst : st0 = As.reverse ++ st) (hw : (st.map fun v => v.category).sum ≤ 8) (hd : decode cc pc = .ok (.invokestatic idx, 3)) (kk : V X I' J' (pc + 3) lv (vo.toList ++ st)) : V X I J pc lv st0 := by
  refine V.run hX rfl (a := As.toArray) (fun H locs ls hW hls => ?_) kk
  obtain ⟨hx, hb, hml, ho, hts, hK, hG, hA, hN, hfr, hlo, hce, hsl, hNW⟩ := hX
  rw [Bool.and_eq_true] at hr
  have hr1 := Nat.le_of_ble_eq_true hr.1
  have hr2 := Nat.le_of_ble_eq_true hr.2
  have hcb := callB_of (own := own) (index := idx) (rm := { frames := dz, cells := 0, slots := 0, locals := locz }) (R := xR X) (mc := 0) (ms := 0) n hts (gCode hp.2.2.1) rfl rfl rfl (hts _ hp.2.1) (hts _ hl) hp.2.2.2 ⟨Nat.le_trans hr1 hfr, Nat.le_trans hr2 hlo⟩
  exact va_runS ⟨hx, hb, hml, ho, hts⟩ hc ⟨hcb, hts _ hp.1⟩ ⟨fb_Pc, fun U hU hWU => ⟨rfl, ⟨va_K.moved hWU.alike hK, NW.warm hWU hNW⟩, by rw [hU]; exact hW⟩⟩ rfl hn hls hst (lv_room hw) hd ⟨hce, hsl⟩
theorem r_callSN (hX : OKX X cc own d loc nL) {z : MethodName} {bytes : ByteArray} {maxL : Nat} {ret : Option FieldType} {dz locz n idx : Nat} {As : List Value} (hc : Ctr (xG X) (xl X) z bytes maxL ret dz locz As I J vo I' J') (hp : MPS z bytes maxL ret n) (j : Nat) (hl : nwL[j]? = some (own, idx, z, "ShelfFilters")) (hn : As.length = n) (hr : (Nat.ble (dz + 1) d && Nat.ble (8 + (maxL + 11) + locz) loc) = true) (hst : st0 = As.reverse ++ st) (hw : (st.map fun v => v.category).sum ≤ 8) (hd : decode cc pc = .ok (.invokestatic idx, 3)) (kk : V X I' J' (pc + 3) lv (vo.toList ++ st)) : V X I J pc lv st0 := by
  refine V.run hX rfl (a := As.toArray) (fun H locs ls hW hls => ?_) kk
  obtain ⟨hx, hb, hml, ho, hts, hK, hG, hA, hN, hfr, hlo, hce, hsl, hNW⟩ := hX
  rw [Bool.and_eq_true] at hr
  have hr1 := Nat.le_of_ble_eq_true hr.1
  have hr2 := Nat.le_of_ble_eq_true hr.2
  have hcb := va_cnB (own := own) (index := idx) (host := "ShelfFilters") (rm := { frames := dz, cells := 0, slots := 0, locals := locz }) (R := xR X) (mc := 0) (ms := 0) n hts (gCode hp.2.2.1) rfl rfl rfl (hNW _ (List.mem_of_getElem? hl)) (hts _ hp.2.1) hp.2.2.2 ⟨Nat.le_trans hr1 hfr, Nat.le_trans hr2 hlo⟩
  exact va_runSN ⟨hx, hb, hml, ho, hts⟩ hc ⟨hcb, hts _ hp.1, trivial⟩ ⟨fb_Pc, fun U hU hWU => ⟨rfl, ⟨va_K.moved hWU.alike hK, NW.warm hWU hNW⟩, by rw [hU]; exact hW⟩⟩ rfl hn hls hst (lv_room hw) hd ⟨hce, hsl⟩
end Calls2
section Ends
variable {G : GX} {l : Launch} {z : MethodName} {cc : ByteArray} {maxL : Nat} {ret : Option FieldType} {d loc : Nat} {as : List Value} {I I' : HI} {J J' : HJ} {vo : Option Value}
theorem ctr_of (hG : OKG G) (hy : plainName z.cls = true) (lv0 : List (Option Value)) (hlv : lvA 0 lv0 = lv_args 0 as) (hlen : Nat.ble (lg_sl as).length maxL = true)
    (body : ∀ X : CX, xG X = G → xl X = l → OKX X cc z.cls d loc maxL → (xM X).locks = false → (xM X).sig.returnType = ret → (xk X = 0 ∧ xn X = 0 ∧ xQ X = MQ (xb X) (fun _ s0 oc t => oc = .returned vo ∧ Wd G I' J' t.heap ∧ va_F (fun q => q ∈ gL G) s0 t) (xa X) (xs X) 0 0 (fun q => q ∈ gL G)) → (xA X = fun q => q ∈ gL G) → V X I J 0 lv0 []) : Ctr G l z cc maxL ret d loc as I J vo I' J' := by
  refine Met.ofW (cc := cc) (maxL := maxL) (ret := ret) hy rfl ?_
  intro p e s m args below meth c s₁ B hml hv
  obtain ⟨rfl, ⟨hK, hNW⟩, hW⟩ := hv
  have hts := atoms_spec (ws := .code z cc maxL ret :: gTbl) B.pre
  have hb := body (G, l, p, e, { frames := d, cells := 0, slots := 0, locals := loc }, s, m, as.toArray, below, meth, c, MQ below (fun _ s0 oc t => oc = .returned vo ∧ Wd G I' J' t.heap ∧ va_F (fun q => q ∈ gL G) s0 t) as.toArray s 0 0 (fun q => q ∈ gL G), (fun q => q ∈ gL G), 0, 0, maxL) rfl rfl
    ⟨B.exec, B.bytes, hml, findClass_of_methodNamed B.named, fun w h => hts w (List.mem_cons_of_mem _ h), hK, hG, fun _ h => h, rfl, Nat.le_refl _, Nat.le_refl _, Nat.le_refl _, Nat.le_refl _, hNW⟩ B.notSynchronized B.returns ⟨rfl, rfl, rfl⟩ rfl
  have hl := lv_entry as (n := maxL) (Nat.le_of_ble_eq_true hlen)
  rw [lg_entry_eq]
  rw [← hlv] at hl
  exact hb s.heap [] _ hW va_S.rf hl
def RetI (X : CX) (cc : ByteArray) (r : Int32) (I' : HI) (J' : HJ) : Prop := ∀ pc lv, decode cc pc = .ok (.ireturn, 1) → V X I' J' pc lv [.int r]
def RetV (X : CX) (cc : ByteArray) (I' : HI) (J' : HJ) : Prop := ∀ pc lv, decode cc pc = .ok (.return_, 1) → V X I' J' pc lv []
def RetL (X : CX) (cc : ByteArray) (r : Int64) (I' : HI) (J' : HJ) : Prop := ∀ pc lv, decode cc pc = .ok (.lreturn, 1) → V X I' J' pc lv [.long r]
def RetA (X : CX) (cc : ByteArray) (r : Option Nat) (I' : HI) (J' : HJ) : Prop := ∀ pc lv, decode cc pc = .ok (.areturn, 1) → V X I' J' pc lv [va_rf r]
theorem ctr_I {r : Int32} (hG : OKG G) (hy : plainName z.cls = true) (lv0 : List (Option Value)) (hlv : lvA 0 lv0 = lv_args 0 as) (hlen : Nat.ble (lg_sl as).length maxL = true)
    (body : ∀ X : CX, xG X = G → xl X = l → OKX X cc z.cls d loc maxL → RetI X cc r I' J' → V X I J 0 lv0 []) : Ctr G l z cc maxL (some .int) d loc as I J (some (.int r)) I' J' := by
  refine ctr_of hG hy lv0 hlv hlen fun X e1 e2 hX hlk hr h3 hA => body X e1 e2 hX fun pc lv hd => ?_
  obtain ⟨hx, hb, -⟩ := hX
  obtain ⟨g1, g2, g3⟩ := h3
  intro H locs ls hW hS hl
  unfold WX
  rw [g1, g2, g3]
  rw [hA] at hS
  rw [e1] at hW
  exact W.iret hx hb hr (fun t ht hWt => ⟨rfl, by rw [ht]; exact hW, hS.F ht⟩) hS.2.2 hd hlk
theorem ctr_Z {r : Int32} (hz : zb r) (hG : OKG G) (hy : plainName z.cls = true) (lv0 : List (Option Value)) (hlv : lvA 0 lv0 = lv_args 0 as) (hlen : Nat.ble (lg_sl as).length maxL = true)
    (body : ∀ X : CX, xG X = G → xl X = l → OKX X cc z.cls d loc maxL → RetI X cc r I' J' → V X I J 0 lv0 []) : Ctr G l z cc maxL (some .boolean) d loc as I J (some (.int r)) I' J' := by
  refine ctr_of hG hy lv0 hlv hlen fun X e1 e2 hX hlk hr h3 hA => body X e1 e2 hX fun pc lv hd => ?_
  obtain ⟨hx, hb, -⟩ := hX
  obtain ⟨g1, g2, g3⟩ := h3
  intro H locs ls hW hS hl
  unfold WX
  rw [g1, g2, g3]
  rw [hA] at hS
  rw [e1] at hW
  exact W.zret hx hb hr (by rcases hz with rfl | rfl <;> rfl) (fun t ht hWt => ⟨rfl, by rw [ht]; exact hW, hS.F ht⟩) hS.2.2 hd hlk
theorem ctr_V (hG : OKG G) (hy : plainName z.cls = true) (lv0 : List (Option Value)) (hlv : lvA 0 lv0 = lv_args 0 as) (hlen : Nat.ble (lg_sl as).length maxL = true)
    (body : ∀ X : CX, xG X = G → xl X = l → OKX X cc z.cls d loc maxL → RetV X cc I' J' → V X I J 0 lv0 []) : Ctr G l z cc maxL none d loc as I J none I' J' := by
  refine ctr_of hG hy lv0 hlv hlen fun X e1 e2 hX hlk hr h3 hA => body X e1 e2 hX fun pc lv hd => ?_
  obtain ⟨hx, hb, -⟩ := hX
  obtain ⟨g1, g2, g3⟩ := h3
  intro H locs ls hW hS hl
  unfold WX
  rw [g1, g2, g3]
  rw [hA] at hS
  rw [e1] at hW
  exact W.vret hx hb hr (fun t ht hWt => ⟨rfl, by rw [ht]; exact hW, hS.F ht⟩) hS.2.2 hd hlk
theorem ctr_L {r : Int64} (hG : OKG G) (hy : plainName z.cls = true) (lv0 : List (Option Value)) (hlv : lvA 0 lv0 = lv_args 0 as) (hlen : Nat.ble (lg_sl as).length maxL = true)
    (body : ∀ X : CX, xG X = G → xl X = l → OKX X cc z.cls d loc maxL → RetL X cc r I' J' → V X I J 0 lv0 []) : Ctr G l z cc maxL (some .long) d loc as I J (some (.long r)) I' J' := by
  refine ctr_of hG hy lv0 hlv hlen fun X e1 e2 hX hlk hr h3 hA => body X e1 e2 hX fun pc lv hd => ?_
  obtain ⟨hx, hb, -⟩ := hX
  obtain ⟨g1, g2, g3⟩ := h3
  intro H locs ls hW hS hl
  unfold WX
  rw [g1, g2, g3]
  rw [hA] at hS
  rw [e1] at hW
  exact W.lret hx hb hr (fun t ht hWt => ⟨rfl, by rw [ht]; exact hW, hS.F ht⟩) hS.2.2 hd hlk
theorem ctr_A {r : Option Nat} {n : String} (hG : OKG G) (hy : plainName z.cls = true) (lv0 : List (Option Value)) (hlv : lvA 0 lv0 = lv_args 0 as) (hlen : Nat.ble (lg_sl as).length maxL = true)
    (body : ∀ X : CX, xG X = G → xl X = l → OKX X cc z.cls d loc maxL → RetA X cc r I' J' → V X I J 0 lv0 []) : Ctr G l z cc maxL (some (.object n)) d loc as I J (some (va_rf r)) I' J' := by
  refine ctr_of hG hy lv0 hlv hlen fun X e1 e2 hX hlk hr h3 hA => body X e1 e2 hX fun pc lv hd => ?_
  obtain ⟨hx, hb, -⟩ := hX
  obtain ⟨g1, g2, g3⟩ := h3
  intro H locs ls hW hS hl
  unfold WX
  rw [g1, g2, g3]
  rw [hA] at hS
  rw [e1] at hW
  exact W.aret hx hb hr (Or.inl ⟨n, rfl⟩) (by cases r with | none => exact Or.inl rfl | some a => exact Or.inr ⟨a, rfl⟩) (fun t ht hWt => ⟨rfl, by rw [ht]; exact hW, hS.F ht⟩) hS.2.2 hd hlk
end Ends
/-! what a text of the program is: guards, calls, loops -/
noncomputable def gd {α : Type} (c : Prop) (x : Option α) : Option α := @ite _ c (Classical.propDecidable c) x none
theorem gd_some {α : Type} {c : Prop} {x : Option α} {r : α} (h : gd c x = some r) : c ∧ x = some r := by
  unfold gd at h
  by_cases hc : c
  · rw [if_pos hc] at h; exact ⟨hc, h⟩
  · rw [if_neg hc] at h; cases h
theorem gd_pos {α : Type} {c : Prop} {x : Option α} (h : c) : gd c x = x := by unfold gd; rw [if_pos h]
def bd1 {α γ : Type} (x : Option α) (f : α → Option γ) : Option γ := match x with | some a => f a | none => none
def bd2 {α β γ : Type} (x : Option (α × β)) (f : α → β → Option γ) : Option γ := match x with | some q => f q.1 q.2 | none => none
def bd3 {α β γ δ : Type} (x : Option (α × β × γ)) (f : α → β → γ → Option δ) : Option δ := match x with | some q => f q.1 q.2.1 q.2.2 | none => none
theorem bd1_some {α γ : Type} {x : Option α} {f : α → Option γ} {r : γ} (h : bd1 x f = some r) : ∃ a, x = some a ∧ f a = some r := by
  cases x with
  | none => cases h
  | some a => exact ⟨a, rfl, h⟩
theorem bd2_some {α β γ : Type} {x : Option (α × β)} {f : α → β → Option γ} {r : γ} (h : bd2 x f = some r) : ∃ a b, x = some (a, b) ∧ f a b = some r := by
  cases x with
  | none => cases h
  | some q => exact ⟨q.1, q.2, rfl, h⟩
theorem bd3_some {α β γ δ : Type} {x : Option (α × β × γ)} {f : α → β → γ → Option δ} {r : δ} (h : bd3 x f = some r) : ∃ a b c, x = some (a, b, c) ∧ f a b c = some r := by
  cases x with
  | none => cases h
  | some q => exact ⟨q.1, q.2.1, q.2.2, rfl, h⟩
theorem hf_t {α : Type} {c : Prop} {i : Decidable c} {x y : Option α} {r : α} (h : c) (hf : @ite _ c i x y = some r) : x = some r := (if_pos h).symm.trans hf
theorem hf_f {α : Type} {c : Prop} {i : Decidable c} {x y : Option α} {r : α} (h : ¬ c) (hf : @ite _ c i x y = some r) : y = some r := (if_neg h).symm.trans hf
def mN {γ : Type} (r : Option Nat) (n : γ) (f : Nat → γ) : γ := match r with | none => n | some a => f a
end
section
theorem gTbl_lw {w : Cond} (h : w ∈ gTbl) : w ∈ lw_tbl := (List.mem_filter.mp h).1
theorem cl_L_7 : Cond.classLink RL 7 RX7 ∈ gTbl := gTbl_of (List.mem_of_getElem? (i := 68) (by decide +kernel)) (by decide +kernel)
theorem it_X7 : Cond.instantiable RX7 10 ∈ gTbl := gTbl_of (List.mem_of_getElem? (i := 69) (by decide +kernel)) (by decide +kernel)
theorem ml_L_9 : Cond.methodLink RL 9 yX7_init ∈ gTbl := gTbl_of (List.mem_of_getElem? (i := 70) (by decide +kernel)) (by decide +kernel)
theorem ml_X7_1 : Cond.methodLink RX7 1 ⟨"java/lang/Object", "<init>", "()V"⟩ ∈ gTbl := gTbl_of (List.mem_of_getElem? (i := 73) (by decide +kernel)) (by decide +kernel)
theorem cl_X7_7 : Cond.classLink RX7 7 RX6 ∈ gTbl := gTbl_of (List.mem_of_getElem? (i := 76) (by decide +kernel)) (by decide +kernel)
theorem it_X6 : Cond.instantiable RX6 5 ∈ gTbl := gTbl_of (List.mem_of_getElem? (i := 77) (by decide +kernel)) (by decide +kernel)
theorem ml_X6_3 : Cond.methodLink RX6 3 ⟨"java/lang/Object", "<init>", "()V"⟩ ∈ gTbl := gTbl_of (List.mem_of_getElem? (i := 81) (by decide +kernel)) (by decide +kernel)
theorem cl_X6_15 : Cond.classLink RX6 15 RX1 ∈ gTbl := gTbl_of (List.mem_of_getElem? (i := 82) (by decide +kernel)) (by decide +kernel)
theorem it_X1 : Cond.instantiable RX1 7 ∈ gTbl := gTbl_of (List.mem_of_getElem? (i := 83) (by decide +kernel)) (by decide +kernel)
theorem ml_X6_17 : Cond.methodLink RX6 17 yX1_init ∈ gTbl := gTbl_of (List.mem_of_getElem? (i := 84) (by decide +kernel)) (by decide +kernel)
theorem ml_X1_3 : Cond.methodLink RX1 3 ⟨"java/lang/Object", "<init>", "()V"⟩ ∈ gTbl := gTbl_of (List.mem_of_getElem? (i := 87) (by decide +kernel)) (by decide +kernel)
theorem cl_X1_9 : Cond.classLink RX1 9 RX0 ∈ gTbl := gTbl_of (List.mem_of_getElem? (i := 88) (by decide +kernel)) (by decide +kernel)
theorem it_X0 : Cond.instantiable RX0 6 ∈ gTbl := gTbl_of (List.mem_of_getElem? (i := 89) (by decide +kernel)) (by decide +kernel)
theorem ml_X0_3 : Cond.methodLink RX0 3 ⟨"java/lang/Object", "<init>", "()V"⟩ ∈ gTbl := gTbl_of (List.mem_of_getElem? (i := 93) (by decide +kernel)) (by decide +kernel)
theorem fl_X0_9 : Cond.fieldLink RX0 9 "ShelfFilters$Hashing" "cells" "I" ∈ gTbl := gTbl_of (List.mem_of_getElem? (i := 94) (by decide +kernel)) (by decide +kernel)
theorem fl_X7_135 : Cond.fieldLink RX7 135 "ShelfFilters$Hashing" "cells" "I" ∈ gTbl := gTbl_of (List.mem_of_getElem? (i := 95) (by decide +kernel)) (by decide +kernel)
theorem fl_X0_15 : Cond.fieldLink RX0 15 "ShelfFilters$Hashing" "functions" "I" ∈ gTbl := gTbl_of (List.mem_of_getElem? (i := 96) (by decide +kernel)) (by decide +kernel)
theorem fl_X7_150 : Cond.fieldLink RX7 150 "ShelfFilters$Hashing" "functions" "I" ∈ gTbl := gTbl_of (List.mem_of_getElem? (i := 97) (by decide +kernel)) (by decide +kernel)
theorem fl_X1_146 : Cond.fieldLink RX1 146 "ShelfFilters$Hashing" "functions" "I" ∈ gTbl := gTbl_of (List.mem_of_getElem? (i := 98) (by decide +kernel)) (by decide +kernel)
theorem fl_X0_18 : Cond.fieldLink RX0 18 "ShelfFilters$Hashing" "families" "I" ∈ gTbl := gTbl_of (List.mem_of_getElem? (i := 99) (by decide +kernel)) (by decide +kernel)
theorem fl_X1_56 : Cond.fieldLink RX1 56 "ShelfFilters$Hashing" "families" "I" ∈ gTbl := gTbl_of (List.mem_of_getElem? (i := 100) (by decide +kernel)) (by decide +kernel)
theorem fl_X6_62 : Cond.fieldLink RX6 62 "ShelfFilters$Hashing" "families" "I" ∈ gTbl := gTbl_of (List.mem_of_getElem? (i := 101) (by decide +kernel)) (by decide +kernel)
theorem fl_X7_200 : Cond.fieldLink RX7 200 "ShelfFilters$Hashing" "families" "I" ∈ gTbl := gTbl_of (List.mem_of_getElem? (i := 102) (by decide +kernel)) (by decide +kernel)
theorem fl_X0_21 : Cond.fieldLink RX0 21 "ShelfFilters$Hashing" "present" "I" ∈ gTbl := gTbl_of (List.mem_of_getElem? (i := 103) (by decide +kernel)) (by decide +kernel)
theorem fl_X1_87 : Cond.fieldLink RX1 87 "ShelfFilters$Hashing" "present" "I" ∈ gTbl := gTbl_of (List.mem_of_getElem? (i := 104) (by decide +kernel)) (by decide +kernel)
theorem fl_X7_182 : Cond.fieldLink RX7 182 "ShelfFilters$Hashing" "present" "I" ∈ gTbl := gTbl_of (List.mem_of_getElem? (i := 105) (by decide +kernel)) (by decide +kernel)
theorem fl_X0_24 : Cond.fieldLink RX0 24 "ShelfFilters$Hashing" "factors" "[I" ∈ gTbl := gTbl_of (List.mem_of_getElem? (i := 106) (by decide +kernel)) (by decide +kernel)
theorem fl_X0_28 : Cond.fieldLink RX0 28 "ShelfFilters$Hashing" "shifts" "[I" ∈ gTbl := gTbl_of (List.mem_of_getElem? (i := 107) (by decide +kernel)) (by decide +kernel)
theorem ac_int : Cond.arrayClass Jvm.ClassFile.FieldType.int ∈ gTbl := gTbl_of (List.mem_of_getElem? (i := 121) (by decide +kernel)) (by decide +kernel)
theorem cl_X1_18 : Cond.classLink RX1 18 RX4 ∈ gTbl := gTbl_of (List.mem_of_getElem? (i := 122) (by decide +kernel)) (by decide +kernel)
theorem ao_X4 : Cond.arrayOver (Jvm.ClassFile.FieldType.object "ShelfFilters$Proxy") ∈ lw_tbl := List.mem_of_getElem? (i := 123) (by decide +kernel)
theorem it_X4 : Cond.instantiable RX4 7 ∈ gTbl := gTbl_of (List.mem_of_getElem? (i := 124) (by decide +kernel)) (by decide +kernel)
theorem ml_X4_3 : Cond.methodLink RX4 3 ⟨"java/lang/Object", "<init>", "()V"⟩ ∈ gTbl := gTbl_of (List.mem_of_getElem? (i := 128) (by decide +kernel)) (by decide +kernel)
theorem fl_X4_9 : Cond.fieldLink RX4 9 "ShelfFilters$Proxy" "room" "I" ∈ gTbl := gTbl_of (List.mem_of_getElem? (i := 129) (by decide +kernel)) (by decide +kernel)
theorem fl_X7_98 : Cond.fieldLink RX7 98 "ShelfFilters$Proxy" "room" "I" ∈ gTbl := gTbl_of (List.mem_of_getElem? (i := 130) (by decide +kernel)) (by decide +kernel)
theorem fl_X4_15 : Cond.fieldLink RX4 15 "ShelfFilters$Proxy" "limit" "I" ∈ gTbl := gTbl_of (List.mem_of_getElem? (i := 131) (by decide +kernel)) (by decide +kernel)
theorem fl_X7_103 : Cond.fieldLink RX7 103 "ShelfFilters$Proxy" "limit" "I" ∈ gTbl := gTbl_of (List.mem_of_getElem? (i := 132) (by decide +kernel)) (by decide +kernel)
theorem fl_X1_156 : Cond.fieldLink RX1 156 "ShelfFilters$Proxy" "limit" "I" ∈ gTbl := gTbl_of (List.mem_of_getElem? (i := 133) (by decide +kernel)) (by decide +kernel)
theorem fl_X4_18 : Cond.fieldLink RX4 18 "ShelfFilters$Proxy" "pages" "I" ∈ gTbl := gTbl_of (List.mem_of_getElem? (i := 134) (by decide +kernel)) (by decide +kernel)
theorem fl_X7_106 : Cond.fieldLink RX7 106 "ShelfFilters$Proxy" "pages" "I" ∈ gTbl := gTbl_of (List.mem_of_getElem? (i := 135) (by decide +kernel)) (by decide +kernel)
theorem fl_X1_74 : Cond.fieldLink RX1 74 "ShelfFilters$Proxy" "pages" "I" ∈ gTbl := gTbl_of (List.mem_of_getElem? (i := 136) (by decide +kernel)) (by decide +kernel)
theorem fl_X4_21 : Cond.fieldLink RX4 21 "ShelfFilters$Proxy" "changes" "I" ∈ gTbl := gTbl_of (List.mem_of_getElem? (i := 137) (by decide +kernel)) (by decide +kernel)
theorem fl_X7_109 : Cond.fieldLink RX7 109 "ShelfFilters$Proxy" "changes" "I" ∈ gTbl := gTbl_of (List.mem_of_getElem? (i := 138) (by decide +kernel)) (by decide +kernel)
theorem fl_X1_137 : Cond.fieldLink RX1 137 "ShelfFilters$Proxy" "changes" "I" ∈ gTbl := gTbl_of (List.mem_of_getElem? (i := 139) (by decide +kernel)) (by decide +kernel)
theorem fl_X4_24 : Cond.fieldLink RX4 24 "ShelfFilters$Proxy" "summary" "I" ∈ gTbl := gTbl_of (List.mem_of_getElem? (i := 140) (by decide +kernel)) (by decide +kernel)
theorem fl_X7_112 : Cond.fieldLink RX7 112 "ShelfFilters$Proxy" "summary" "I" ∈ gTbl := gTbl_of (List.mem_of_getElem? (i := 141) (by decide +kernel)) (by decide +kernel)
theorem fl_X1_80 : Cond.fieldLink RX1 80 "ShelfFilters$Proxy" "summary" "I" ∈ gTbl := gTbl_of (List.mem_of_getElem? (i := 142) (by decide +kernel)) (by decide +kernel)
theorem fl_X4_27 : Cond.fieldLink RX4 27 "ShelfFilters$Proxy" "shelf" "[I" ∈ gTbl := gTbl_of (List.mem_of_getElem? (i := 143) (by decide +kernel)) (by decide +kernel)
theorem fl_X4_31 : Cond.fieldLink RX4 31 "ShelfFilters$Proxy" "counters" "[I" ∈ gTbl := gTbl_of (List.mem_of_getElem? (i := 144) (by decide +kernel)) (by decide +kernel)
theorem fl_X7_140 : Cond.fieldLink RX7 140 "ShelfFilters$Proxy" "counters" "[I" ∈ gTbl := gTbl_of (List.mem_of_getElem? (i := 145) (by decide +kernel)) (by decide +kernel)
theorem fl_X1_12 : Cond.fieldLink RX1 12 "ShelfFilters$Net" "hashing" "LShelfFilters$Hashing;" ∈ gTbl := gTbl_of (List.mem_of_getElem? (i := 161) (by decide +kernel)) (by decide +kernel)
theorem fl_X7_131 : Cond.fieldLink RX7 131 "ShelfFilters$Net" "hashing" "LShelfFilters$Hashing;" ∈ gTbl := gTbl_of (List.mem_of_getElem? (i := 162) (by decide +kernel)) (by decide +kernel)
theorem fl_X6_58 : Cond.fieldLink RX6 58 "ShelfFilters$Net" "hashing" "LShelfFilters$Hashing;" ∈ gTbl := gTbl_of (List.mem_of_getElem? (i := 163) (by decide +kernel)) (by decide +kernel)
theorem fl_X1_20 : Cond.fieldLink RX1 20 "ShelfFilters$Net" "proxies" "[LShelfFilters$Proxy;" ∈ gTbl := gTbl_of (List.mem_of_getElem? (i := 164) (by decide +kernel)) (by decide +kernel)
theorem fl_X1_24 : Cond.fieldLink RX1 24 "ShelfFilters$Net" "size" "I" ∈ gTbl := gTbl_of (List.mem_of_getElem? (i := 165) (by decide +kernel)) (by decide +kernel)
theorem fl_X7_91 : Cond.fieldLink RX7 91 "ShelfFilters$Net" "size" "I" ∈ gTbl := gTbl_of (List.mem_of_getElem? (i := 166) (by decide +kernel)) (by decide +kernel)
theorem fl_X6_70 : Cond.fieldLink RX6 70 "ShelfFilters$Net" "size" "I" ∈ gTbl := gTbl_of (List.mem_of_getElem? (i := 167) (by decide +kernel)) (by decide +kernel)
theorem fl_X1_28 : Cond.fieldLink RX1 28 "ShelfFilters$Net" "requests" "I" ∈ gTbl := gTbl_of (List.mem_of_getElem? (i := 168) (by decide +kernel)) (by decide +kernel)
theorem fl_X7_257 : Cond.fieldLink RX7 257 "ShelfFilters$Net" "requests" "I" ∈ gTbl := gTbl_of (List.mem_of_getElem? (i := 169) (by decide +kernel)) (by decide +kernel)
theorem fl_X1_31 : Cond.fieldLink RX1 31 "ShelfFilters$Net" "falseHits" "I" ∈ gTbl := gTbl_of (List.mem_of_getElem? (i := 170) (by decide +kernel)) (by decide +kernel)
theorem fl_X7_260 : Cond.fieldLink RX7 260 "ShelfFilters$Net" "falseHits" "I" ∈ gTbl := gTbl_of (List.mem_of_getElem? (i := 171) (by decide +kernel)) (by decide +kernel)
theorem fl_X1_34 : Cond.fieldLink RX1 34 "ShelfFilters$Net" "fetches" "I" ∈ gTbl := gTbl_of (List.mem_of_getElem? (i := 172) (by decide +kernel)) (by decide +kernel)
theorem fl_X7_263 : Cond.fieldLink RX7 263 "ShelfFilters$Net" "fetches" "I" ∈ gTbl := gTbl_of (List.mem_of_getElem? (i := 173) (by decide +kernel)) (by decide +kernel)
theorem fl_X1_37 : Cond.fieldLink RX1 37 "ShelfFilters$Net" "messages" "I" ∈ gTbl := gTbl_of (List.mem_of_getElem? (i := 174) (by decide +kernel)) (by decide +kernel)
theorem fl_X7_266 : Cond.fieldLink RX7 266 "ShelfFilters$Net" "messages" "I" ∈ gTbl := gTbl_of (List.mem_of_getElem? (i := 175) (by decide +kernel)) (by decide +kernel)
theorem fl_X6_9 : Cond.fieldLink RX6 9 "ShelfFilters$Text" "length" "I" ∈ gTbl := gTbl_of (List.mem_of_getElem? (i := 191) (by decide +kernel)) (by decide +kernel)
theorem fl_X7_73 : Cond.fieldLink RX7 73 "ShelfFilters$Text" "length" "I" ∈ gTbl := gTbl_of (List.mem_of_getElem? (i := 192) (by decide +kernel)) (by decide +kernel)
theorem fl_X6_18 : Cond.fieldLink RX6 18 "ShelfFilters$Text" "net" "LShelfFilters$Net;" ∈ gTbl := gTbl_of (List.mem_of_getElem? (i := 193) (by decide +kernel)) (by decide +kernel)
theorem fl_X7_81 : Cond.fieldLink RX7 81 "ShelfFilters$Text" "net" "LShelfFilters$Net;" ∈ gTbl := gTbl_of (List.mem_of_getElem? (i := 194) (by decide +kernel)) (by decide +kernel)
theorem fl_X6_22 : Cond.fieldLink RX6 22 "ShelfFilters$Text" "letters" "[I" ∈ gTbl := gTbl_of (List.mem_of_getElem? (i := 195) (by decide +kernel)) (by decide +kernel)
theorem fl_X6_26 : Cond.fieldLink RX6 26 "ShelfFilters$Text" "at" "I" ∈ gTbl := gTbl_of (List.mem_of_getElem? (i := 196) (by decide +kernel)) (by decide +kernel)
theorem fl_X6_29 : Cond.fieldLink RX6 29 "ShelfFilters$Text" "digit" "I" ∈ gTbl := gTbl_of (List.mem_of_getElem? (i := 197) (by decide +kernel)) (by decide +kernel)
theorem cl_X7_16 : Cond.classLink RX7 16 RX1 ∈ gTbl := gTbl_of (List.mem_of_getElem? (i := 209) (by decide +kernel)) (by decide +kernel)
theorem ml_X7_18 : Cond.methodLink RX7 18 yX1_init ∈ gTbl := gTbl_of (List.mem_of_getElem? (i := 210) (by decide +kernel)) (by decide +kernel)
theorem cl_X7_26 : Cond.classLink RX7 26 RX3 ∈ gTbl := gTbl_of (List.mem_of_getElem? (i := 211) (by decide +kernel)) (by decide +kernel)
theorem it_X3 : Cond.instantiable RX3 3 ∈ gTbl := gTbl_of (List.mem_of_getElem? (i := 212) (by decide +kernel)) (by decide +kernel)
theorem ml_X7_28 : Cond.methodLink RX7 28 yX3_init ∈ gTbl := gTbl_of (List.mem_of_getElem? (i := 213) (by decide +kernel)) (by decide +kernel)
theorem ml_X3_3 : Cond.methodLink RX3 3 ⟨"java/lang/Object", "<init>", "()V"⟩ ∈ gTbl := gTbl_of (List.mem_of_getElem? (i := 216) (by decide +kernel)) (by decide +kernel)
theorem cl_X3_9 : Cond.classLink RX3 9 RX1 ∈ gTbl := gTbl_of (List.mem_of_getElem? (i := 217) (by decide +kernel)) (by decide +kernel)
theorem ao_X1 : Cond.arrayOver (Jvm.ClassFile.FieldType.object "ShelfFilters$Net") ∈ lw_tbl := List.mem_of_getElem? (i := 218) (by decide +kernel)
theorem ml_X3_24 : Cond.methodLink RX3 24 yX1_init ∈ gTbl := gTbl_of (List.mem_of_getElem? (i := 219) (by decide +kernel)) (by decide +kernel)
theorem fl_X3_11 : Cond.fieldLink RX3 11 "ShelfFilters$Past" "nets" "[LShelfFilters$Net;" ∈ gTbl := gTbl_of (List.mem_of_getElem? (i := 220) (by decide +kernel)) (by decide +kernel)
theorem fl_X3_17 : Cond.fieldLink RX3 17 "ShelfFilters$Past" "next" "I" ∈ gTbl := gTbl_of (List.mem_of_getElem? (i := 221) (by decide +kernel)) (by decide +kernel)
theorem fl_X3_21 : Cond.fieldLink RX3 21 "ShelfFilters$Past" "size" "I" ∈ gTbl := gTbl_of (List.mem_of_getElem? (i := 222) (by decide +kernel)) (by decide +kernel)
theorem fl_X7_192 : Cond.fieldLink RX7 192 "ShelfFilters$Past" "size" "I" ∈ gTbl := gTbl_of (List.mem_of_getElem? (i := 223) (by decide +kernel)) (by decide +kernel)
theorem cl_X7_41 : Cond.classLink RX7 41 RX5 ∈ gTbl := gTbl_of (List.mem_of_getElem? (i := 231) (by decide +kernel)) (by decide +kernel)
theorem it_X5 : Cond.instantiable RX5 4 ∈ gTbl := gTbl_of (List.mem_of_getElem? (i := 232) (by decide +kernel)) (by decide +kernel)
theorem ml_X5_3 : Cond.methodLink RX5 3 ⟨"java/lang/Object", "<init>", "()V"⟩ ∈ gTbl := gTbl_of (List.mem_of_getElem? (i := 236) (by decide +kernel)) (by decide +kernel)
theorem fl_X5_9 : Cond.fieldLink RX5 9 "ShelfFilters$Sightings" "proxies" "[I" ∈ gTbl := gTbl_of (List.mem_of_getElem? (i := 237) (by decide +kernel)) (by decide +kernel)
theorem fl_X5_15 : Cond.fieldLink RX5 15 "ShelfFilters$Sightings" "sorts" "[I" ∈ gTbl := gTbl_of (List.mem_of_getElem? (i := 238) (by decide +kernel)) (by decide +kernel)
theorem fl_X5_18 : Cond.fieldLink RX5 18 "ShelfFilters$Sightings" "truths" "[Z" ∈ gTbl := gTbl_of (List.mem_of_getElem? (i := 239) (by decide +kernel)) (by decide +kernel)
theorem fl_X5_22 : Cond.fieldLink RX5 22 "ShelfFilters$Sightings" "size" "I" ∈ gTbl := gTbl_of (List.mem_of_getElem? (i := 240) (by decide +kernel)) (by decide +kernel)
theorem fl_X7_230 : Cond.fieldLink RX7 230 "ShelfFilters$Sightings" "size" "I" ∈ gTbl := gTbl_of (List.mem_of_getElem? (i := 241) (by decide +kernel)) (by decide +kernel)
theorem ac_boolean : Cond.arrayClass Jvm.ClassFile.FieldType.boolean ∈ gTbl := gTbl_of (List.mem_of_getElem? (i := 251) (by decide +kernel)) (by decide +kernel)
theorem cl_X7_48 : Cond.classLink RX7 48 RX2 ∈ gTbl := gTbl_of (List.mem_of_getElem? (i := 252) (by decide +kernel)) (by decide +kernel)
theorem it_X2 : Cond.instantiable RX2 2 ∈ gTbl := gTbl_of (List.mem_of_getElem? (i := 253) (by decide +kernel)) (by decide +kernel)
theorem ml_X2_3 : Cond.methodLink RX2 3 ⟨"java/lang/Object", "<init>", "()V"⟩ ∈ gTbl := gTbl_of (List.mem_of_getElem? (i := 257) (by decide +kernel)) (by decide +kernel)
theorem fl_X2_9 : Cond.fieldLink RX2 9 "ShelfFilters$Order" "size" "I" ∈ gTbl := gTbl_of (List.mem_of_getElem? (i := 258) (by decide +kernel)) (by decide +kernel)
theorem fl_X7_291 : Cond.fieldLink RX7 291 "ShelfFilters$Order" "size" "I" ∈ gTbl := gTbl_of (List.mem_of_getElem? (i := 259) (by decide +kernel)) (by decide +kernel)
theorem fl_X2_15 : Cond.fieldLink RX2 15 "ShelfFilters$Order" "pages" "[I" ∈ gTbl := gTbl_of (List.mem_of_getElem? (i := 260) (by decide +kernel)) (by decide +kernel)
theorem ml_X7_62 : Cond.methodLink RX7 62 yX1_begin ∈ gTbl := gTbl_of (List.mem_of_getElem? (i := 266) (by decide +kernel)) (by decide +kernel)
theorem ml_X1_48 : Cond.methodLink RX1 48 yX0_begin ∈ gTbl := gTbl_of (List.mem_of_getElem? (i := 270) (by decide +kernel)) (by decide +kernel)
theorem ml_X1_52 : Cond.methodLink RX1 52 yX1_clearCounts ∈ gTbl := gTbl_of (List.mem_of_getElem? (i := 274) (by decide +kernel)) (by decide +kernel)
theorem ml_X7_66 : Cond.methodLink RX7 66 yX1_complete ∈ gTbl := gTbl_of (List.mem_of_getElem? (i := 278) (by decide +kernel)) (by decide +kernel)
theorem ml_X1_59 : Cond.methodLink RX1 59 yX0_addFamily ∈ gTbl := gTbl_of (List.mem_of_getElem? (i := 282) (by decide +kernel)) (by decide +kernel)
theorem ml_X1_62 : Cond.methodLink RX1 62 yX1_adopt ∈ gTbl := gTbl_of (List.mem_of_getElem? (i := 286) (by decide +kernel)) (by decide +kernel)
theorem ml_X1_163 : Cond.methodLink RX1 163 yX0_isFamily ∈ gTbl := gTbl_of (List.mem_of_getElem? (i := 290) (by decide +kernel)) (by decide +kernel)
theorem ml_X1_66 : Cond.methodLink RX1 66 yX1_proxyAt ∈ gTbl := gTbl_of (List.mem_of_getElem? (i := 294) (by decide +kernel)) (by decide +kernel)
theorem ml_X1_166 : Cond.methodLink RX1 166 yX1_rebuild ∈ gTbl := gTbl_of (List.mem_of_getElem? (i := 298) (by decide +kernel)) (by decide +kernel)
theorem ml_X1_169 : Cond.methodLink RX1 169 yX4_clearCounters ∈ gTbl := gTbl_of (List.mem_of_getElem? (i := 302) (by decide +kernel)) (by decide +kernel)
theorem ml_X1_98 : Cond.methodLink RX1 98 yX4_pageAt ∈ gTbl := gTbl_of (List.mem_of_getElem? (i := 306) (by decide +kernel)) (by decide +kernel)
theorem ml_X1_133 : Cond.methodLink RX1 133 yX1_tally ∈ gTbl := gTbl_of (List.mem_of_getElem? (i := 310) (by decide +kernel)) (by decide +kernel)
theorem ml_X1_149 : Cond.methodLink RX1 149 yX0_cell ∈ gTbl := gTbl_of (List.mem_of_getElem? (i := 314) (by decide +kernel)) (by decide +kernel)
theorem ml_X1_153 : Cond.methodLink RX1 153 yX4_move ∈ gTbl := gTbl_of (List.mem_of_getElem? (i := 318) (by decide +kernel)) (by decide +kernel)
theorem ml_X1_159 : Cond.methodLink RX1 159 yX1_spread ∈ gTbl := gTbl_of (List.mem_of_getElem? (i := 322) (by decide +kernel)) (by decide +kernel)
theorem ml_X1_83 : Cond.methodLink RX1 83 yX4_filterSet ∈ gTbl := gTbl_of (List.mem_of_getElem? (i := 326) (by decide +kernel)) (by decide +kernel)
theorem fl_X7_10 : Cond.fieldLink RX7 10 "ShelfFilters" "text" "LShelfFilters$Text;" ∈ gTbl := gTbl_of (List.mem_of_getElem? (i := 330) (by decide +kernel)) (by decide +kernel)
theorem fl_X7_19 : Cond.fieldLink RX7 19 "ShelfFilters" "current" "LShelfFilters$Net;" ∈ gTbl := gTbl_of (List.mem_of_getElem? (i := 331) (by decide +kernel)) (by decide +kernel)
theorem fl_X7_23 : Cond.fieldLink RX7 23 "ShelfFilters" "trial" "LShelfFilters$Net;" ∈ gTbl := gTbl_of (List.mem_of_getElem? (i := 332) (by decide +kernel)) (by decide +kernel)
theorem fl_X7_29 : Cond.fieldLink RX7 29 "ShelfFilters" "past" "LShelfFilters$Past;" ∈ gTbl := gTbl_of (List.mem_of_getElem? (i := 333) (by decide +kernel)) (by decide +kernel)
theorem fl_X7_33 : Cond.fieldLink RX7 33 "ShelfFilters" "slots" "[LShelfFilters$Net;" ∈ gTbl := gTbl_of (List.mem_of_getElem? (i := 334) (by decide +kernel)) (by decide +kernel)
theorem fl_X7_37 : Cond.fieldLink RX7 37 "ShelfFilters" "filled" "[Z" ∈ gTbl := gTbl_of (List.mem_of_getElem? (i := 335) (by decide +kernel)) (by decide +kernel)
theorem fl_X7_44 : Cond.fieldLink RX7 44 "ShelfFilters" "sightings" "LShelfFilters$Sightings;" ∈ gTbl := gTbl_of (List.mem_of_getElem? (i := 336) (by decide +kernel)) (by decide +kernel)
theorem fl_X7_51 : Cond.fieldLink RX7 51 "ShelfFilters" "tried" "LShelfFilters$Order;" ∈ gTbl := gTbl_of (List.mem_of_getElem? (i := 337) (by decide +kernel)) (by decide +kernel)
theorem fl_X7_55 : Cond.fieldLink RX7 55 "ShelfFilters" "cheapest" "LShelfFilters$Order;" ∈ gTbl := gTbl_of (List.mem_of_getElem? (i := 338) (by decide +kernel)) (by decide +kernel)
theorem fl_X7_58 : Cond.fieldLink RX7 58 "ShelfFilters" "chance" "J" ∈ gTbl := gTbl_of (List.mem_of_getElem? (i := 339) (by decide +kernel)) (by decide +kernel)
theorem ml_L_13 : Cond.methodLink RL 13 yX7_write ∈ gTbl := gTbl_of (List.mem_of_getElem? (i := 361) (by decide +kernel)) (by decide +kernel)
theorem ml_X7_69 : Cond.methodLink RX7 69 yX6_append ∈ gTbl := gTbl_of (List.mem_of_getElem? (i := 365) (by decide +kernel)) (by decide +kernel)
theorem ml_L_18 : Cond.methodLink RL 18 yX7_wipe ∈ gTbl := gTbl_of (List.mem_of_getElem? (i := 369) (by decide +kernel)) (by decide +kernel)
theorem ml_L_23 : Cond.methodLink RL 23 yX7_fault ∈ gTbl := gTbl_of (List.mem_of_getElem? (i := 373) (by decide +kernel)) (by decide +kernel)
theorem ml_X7_77 : Cond.methodLink RX7 77 yX6_read ∈ gTbl := gTbl_of (List.mem_of_getElem? (i := 377) (by decide +kernel)) (by decide +kernel)
theorem ml_X6_32 : Cond.methodLink RX6 32 yX6_readHead ∈ gTbl := gTbl_of (List.mem_of_getElem? (i := 381) (by decide +kernel)) (by decide +kernel)
theorem ml_X6_46 : Cond.methodLink RX6 46 yX6_pass ∈ gTbl := gTbl_of (List.mem_of_getElem? (i := 385) (by decide +kernel)) (by decide +kernel)
theorem ml_X6_42 : Cond.methodLink RX6 42 yX6_letter ∈ gTbl := gTbl_of (List.mem_of_getElem? (i := 389) (by decide +kernel)) (by decide +kernel)
theorem ml_X6_50 : Cond.methodLink RX6 50 yX6_passDigit ∈ gTbl := gTbl_of (List.mem_of_getElem? (i := 393) (by decide +kernel)) (by decide +kernel)
theorem ml_X6_54 : Cond.methodLink RX6 54 yX1_begin ∈ gTbl := gTbl_of (List.mem_of_getElem? (i := 397) (by decide +kernel)) (by decide +kernel)
theorem ml_X6_36 : Cond.methodLink RX6 36 yX6_readPart ∈ gTbl := gTbl_of (List.mem_of_getElem? (i := 398) (by decide +kernel)) (by decide +kernel)
theorem ml_X6_67 : Cond.methodLink RX6 67 yX6_readFamily ∈ gTbl := gTbl_of (List.mem_of_getElem? (i := 402) (by decide +kernel)) (by decide +kernel)
theorem ml_X6_82 : Cond.methodLink RX6 82 yX0_addFamily ∈ gTbl := gTbl_of (List.mem_of_getElem? (i := 406) (by decide +kernel)) (by decide +kernel)
theorem ml_X6_73 : Cond.methodLink RX6 73 yX6_readProxy ∈ gTbl := gTbl_of (List.mem_of_getElem? (i := 407) (by decide +kernel)) (by decide +kernel)
theorem ml_X6_85 : Cond.methodLink RX6 85 yX1_addProxy ∈ gTbl := gTbl_of (List.mem_of_getElem? (i := 411) (by decide +kernel)) (by decide +kernel)
theorem ml_X1_55 : Cond.methodLink RX1 55 yX4_begin ∈ gTbl := gTbl_of (List.mem_of_getElem? (i := 415) (by decide +kernel)) (by decide +kernel)
theorem ml_X4_38 : Cond.methodLink RX4 38 yX4_clearCounters ∈ gTbl := gTbl_of (List.mem_of_getElem? (i := 419) (by decide +kernel)) (by decide +kernel)
theorem ml_X6_76 : Cond.methodLink RX6 76 yX1_anyRoom ∈ gTbl := gTbl_of (List.mem_of_getElem? (i := 420) (by decide +kernel)) (by decide +kernel)
theorem ml_X1_70 : Cond.methodLink RX1 70 yX4_hasRoom ∈ gTbl := gTbl_of (List.mem_of_getElem? (i := 424) (by decide +kernel)) (by decide +kernel)
theorem ml_X6_79 : Cond.methodLink RX6 79 yX6_readShelved ∈ gTbl := gTbl_of (List.mem_of_getElem? (i := 428) (by decide +kernel)) (by decide +kernel)
theorem ml_X6_88 : Cond.methodLink RX6 88 yX1_proxyAt ∈ gTbl := gTbl_of (List.mem_of_getElem? (i := 432) (by decide +kernel)) (by decide +kernel)
theorem ml_X6_92 : Cond.methodLink RX6 92 yX4_hasRoom ∈ gTbl := gTbl_of (List.mem_of_getElem? (i := 433) (by decide +kernel)) (by decide +kernel)
theorem ml_X6_97 : Cond.methodLink RX6 97 yX6_mayBegin ∈ gTbl := gTbl_of (List.mem_of_getElem? (i := 434) (by decide +kernel)) (by decide +kernel)
theorem ml_X6_104 : Cond.methodLink RX6 104 yX4_has ∈ gTbl := gTbl_of (List.mem_of_getElem? (i := 440) (by decide +kernel)) (by decide +kernel)
theorem ml_X4_41 : Cond.methodLink RX4 41 yX4_placeOf ∈ gTbl := gTbl_of (List.mem_of_getElem? (i := 444) (by decide +kernel)) (by decide +kernel)
theorem ml_X6_107 : Cond.methodLink RX6 107 yX4_addOldest ∈ gTbl := gTbl_of (List.mem_of_getElem? (i := 448) (by decide +kernel)) (by decide +kernel)
theorem ml_X6_39 : Cond.methodLink RX6 39 yX1_complete ∈ gTbl := gTbl_of (List.mem_of_getElem? (i := 452) (by decide +kernel)) (by decide +kernel)
theorem ml_L_27 : Cond.methodLink RL 27 yX7_net ∈ gTbl := gTbl_of (List.mem_of_getElem? (i := 453) (by decide +kernel)) (by decide +kernel)
theorem ml_X7_84 : Cond.methodLink RX7 84 yX1_take ∈ gTbl := gTbl_of (List.mem_of_getElem? (i := 457) (by decide +kernel)) (by decide +kernel)
theorem ml_X1_41 : Cond.methodLink RX1 41 yX0_take ∈ gTbl := gTbl_of (List.mem_of_getElem? (i := 461) (by decide +kernel)) (by decide +kernel)
theorem ml_X1_45 : Cond.methodLink RX1 45 yX4_take ∈ gTbl := gTbl_of (List.mem_of_getElem? (i := 468) (by decide +kernel)) (by decide +kernel)
theorem ml_X7_88 : Cond.methodLink RX7 88 yX3_forget ∈ gTbl := gTbl_of (List.mem_of_getElem? (i := 473) (by decide +kernel)) (by decide +kernel)
theorem ml_L_31 : Cond.methodLink RL 31 yX7_proxy ∈ gTbl := gTbl_of (List.mem_of_getElem? (i := 477) (by decide +kernel)) (by decide +kernel)
theorem ml_X7_94 : Cond.methodLink RX7 94 yX1_proxyAt ∈ gTbl := gTbl_of (List.mem_of_getElem? (i := 481) (by decide +kernel)) (by decide +kernel)
theorem ml_X7_115 : Cond.methodLink RX7 115 yX1_claimed ∈ gTbl := gTbl_of (List.mem_of_getElem? (i := 482) (by decide +kernel)) (by decide +kernel)
theorem ml_X1_94 : Cond.methodLink RX1 94 yX0_pagesIn ∈ gTbl := gTbl_of (List.mem_of_getElem? (i := 486) (by decide +kernel)) (by decide +kernel)
theorem ml_X0_39 : Cond.methodLink RX0 39 yX0_contains ∈ gTbl := gTbl_of (List.mem_of_getElem? (i := 490) (by decide +kernel)) (by decide +kernel)
theorem ml_X0_35 : Cond.methodLink RX0 35 yX0_cell ∈ gTbl := gTbl_of (List.mem_of_getElem? (i := 494) (by decide +kernel)) (by decide +kernel)
theorem ml_X7_119 : Cond.methodLink RX7 119 yX4_shelfSet ∈ gTbl := gTbl_of (List.mem_of_getElem? (i := 495) (by decide +kernel)) (by decide +kernel)
theorem ml_X7_122 : Cond.methodLink RX7 122 yJ6_bitCount_0f7a4 ∈ gTbl := gTbl_of (List.mem_of_getElem? (i := 499) (by decide +kernel)) (by decide +kernel)
theorem cn_J6_265 : Cond.constant RJ6 265 (1431655765) ∈ gTbl := gTbl_of (List.mem_of_getElem? (i := 502) (by decide +kernel)) (by decide +kernel)
theorem cn_J6_266 : Cond.constant RJ6 266 (858993459) ∈ gTbl := gTbl_of (List.mem_of_getElem? (i := 503) (by decide +kernel)) (by decide +kernel)
theorem cn_J6_267 : Cond.constant RJ6 267 (252645135) ∈ gTbl := gTbl_of (List.mem_of_getElem? (i := 504) (by decide +kernel)) (by decide +kernel)
theorem ml_L_36 : Cond.methodLink RL 36 yX7_page ∈ gTbl := gTbl_of (List.mem_of_getElem? (i := 505) (by decide +kernel)) (by decide +kernel)
theorem ml_X7_128 : Cond.methodLink RX7 128 yX4_pageAt ∈ gTbl := gTbl_of (List.mem_of_getElem? (i := 509) (by decide +kernel)) (by decide +kernel)
theorem ml_L_40 : Cond.methodLink RL 40 yX7_counter ∈ gTbl := gTbl_of (List.mem_of_getElem? (i := 510) (by decide +kernel)) (by decide +kernel)
theorem ml_L_44 : Cond.methodLink RL 44 yX7_hash ∈ gTbl := gTbl_of (List.mem_of_getElem? (i := 514) (by decide +kernel)) (by decide +kernel)
theorem ml_X7_144 : Cond.methodLink RX7 144 yX0_isFamily ∈ gTbl := gTbl_of (List.mem_of_getElem? (i := 518) (by decide +kernel)) (by decide +kernel)
theorem ml_X7_147 : Cond.methodLink RX7 147 yX7_isPage ∈ gTbl := gTbl_of (List.mem_of_getElem? (i := 519) (by decide +kernel)) (by decide +kernel)
theorem ml_X7_153 : Cond.methodLink RX7 153 yX0_cell ∈ gTbl := gTbl_of (List.mem_of_getElem? (i := 520) (by decide +kernel)) (by decide +kernel)
theorem ml_L_49 : Cond.methodLink RL 49 yX7_says ∈ gTbl := gTbl_of (List.mem_of_getElem? (i := 521) (by decide +kernel)) (by decide +kernel)
theorem ml_X7_157 : Cond.methodLink RX7 157 yX1_isSo ∈ gTbl := gTbl_of (List.mem_of_getElem? (i := 525) (by decide +kernel)) (by decide +kernel)
theorem ml_X1_77 : Cond.methodLink RX1 77 yX4_has ∈ gTbl := gTbl_of (List.mem_of_getElem? (i := 529) (by decide +kernel)) (by decide +kernel)
theorem ml_X1_90 : Cond.methodLink RX1 90 yX0_contains ∈ gTbl := gTbl_of (List.mem_of_getElem? (i := 530) (by decide +kernel)) (by decide +kernel)
theorem ml_L_54 : Cond.methodLink RL 54 yX7_ask ∈ gTbl := gTbl_of (List.mem_of_getElem? (i := 531) (by decide +kernel)) (by decide +kernel)
theorem ml_X7_161 : Cond.methodLink RX7 161 yX3_record ∈ gTbl := gTbl_of (List.mem_of_getElem? (i := 535) (by decide +kernel)) (by decide +kernel)
theorem ml_X3_29 : Cond.methodLink RX3 29 yX1_take ∈ gTbl := gTbl_of (List.mem_of_getElem? (i := 542) (by decide +kernel)) (by decide +kernel)
theorem ml_X3_33 : Cond.methodLink RX3 33 yJ9_min_7cf53 ∈ gTbl := gTbl_of (List.mem_of_getElem? (i := 543) (by decide +kernel)) (by decide +kernel)
theorem ml_X7_164 : Cond.methodLink RX7 164 yX1_request ∈ gTbl := gTbl_of (List.mem_of_getElem? (i := 546) (by decide +kernel)) (by decide +kernel)
theorem ml_X1_113 : Cond.methodLink RX1 113 yX4_renew ∈ gTbl := gTbl_of (List.mem_of_getElem? (i := 550) (by decide +kernel)) (by decide +kernel)
theorem ml_X4_45 : Cond.methodLink RX4 45 yX4_removeAt ∈ gTbl := gTbl_of (List.mem_of_getElem? (i := 554) (by decide +kernel)) (by decide +kernel)
theorem ml_X4_49 : Cond.methodLink RX4 49 yX4_addNewest ∈ gTbl := gTbl_of (List.mem_of_getElem? (i := 558) (by decide +kernel)) (by decide +kernel)
theorem ml_X1_117 : Cond.methodLink RX1 117 yX1_searchOthers ∈ gTbl := gTbl_of (List.mem_of_getElem? (i := 562) (by decide +kernel)) (by decide +kernel)
theorem ml_X1_120 : Cond.methodLink RX1 120 yX1_removePage ∈ gTbl := gTbl_of (List.mem_of_getElem? (i := 566) (by decide +kernel)) (by decide +kernel)
theorem ml_X1_140 : Cond.methodLink RX1 140 yX4_placeOf ∈ gTbl := gTbl_of (List.mem_of_getElem? (i := 570) (by decide +kernel)) (by decide +kernel)
theorem ml_X1_143 : Cond.methodLink RX1 143 yX4_removeAt ∈ gTbl := gTbl_of (List.mem_of_getElem? (i := 571) (by decide +kernel)) (by decide +kernel)
theorem ml_X1_124 : Cond.methodLink RX1 124 yX1_addPage ∈ gTbl := gTbl_of (List.mem_of_getElem? (i := 572) (by decide +kernel)) (by decide +kernel)
theorem ml_X1_130 : Cond.methodLink RX1 130 yX4_addNewest ∈ gTbl := gTbl_of (List.mem_of_getElem? (i := 576) (by decide +kernel)) (by decide +kernel)
theorem ml_X1_127 : Cond.methodLink RX1 127 yX1_spreadDue ∈ gTbl := gTbl_of (List.mem_of_getElem? (i := 577) (by decide +kernel)) (by decide +kernel)
theorem ml_L_58 : Cond.methodLink RL 58 yX7_drop ∈ gTbl := gTbl_of (List.mem_of_getElem? (i := 581) (by decide +kernel)) (by decide +kernel)
theorem ml_X7_168 : Cond.methodLink RX7 168 yX4_has ∈ gTbl := gTbl_of (List.mem_of_getElem? (i := 585) (by decide +kernel)) (by decide +kernel)
theorem ml_X7_171 : Cond.methodLink RX7 171 yX1_discard ∈ gTbl := gTbl_of (List.mem_of_getElem? (i := 586) (by decide +kernel)) (by decide +kernel)
theorem ml_L_62 : Cond.methodLink RL 62 yX7_send ∈ gTbl := gTbl_of (List.mem_of_getElem? (i := 590) (by decide +kernel)) (by decide +kernel)
theorem ml_X7_175 : Cond.methodLink RX7 175 yX1_spread ∈ gTbl := gTbl_of (List.mem_of_getElem? (i := 594) (by decide +kernel)) (by decide +kernel)
theorem ml_L_66 : Cond.methodLink RL 66 yX7_threshold ∈ gTbl := gTbl_of (List.mem_of_getElem? (i := 595) (by decide +kernel)) (by decide +kernel)
theorem ml_X7_179 : Cond.methodLink RX7 179 yX1_spreadDue ∈ gTbl := gTbl_of (List.mem_of_getElem? (i := 599) (by decide +kernel)) (by decide +kernel)
theorem ml_L_70 : Cond.methodLink RL 70 yX7_use ∈ gTbl := gTbl_of (List.mem_of_getElem? (i := 600) (by decide +kernel)) (by decide +kernel)
theorem ml_X7_185 : Cond.methodLink RX7 185 yX1_adopt ∈ gTbl := gTbl_of (List.mem_of_getElem? (i := 604) (by decide +kernel)) (by decide +kernel)
theorem ml_L_74 : Cond.methodLink RL 74 yX7_undo ∈ gTbl := gTbl_of (List.mem_of_getElem? (i := 605) (by decide +kernel)) (by decide +kernel)
theorem ml_X7_188 : Cond.methodLink RX7 188 yX3_restore ∈ gTbl := gTbl_of (List.mem_of_getElem? (i := 609) (by decide +kernel)) (by decide +kernel)
theorem ml_L_78 : Cond.methodLink RL 78 yX7_weight ∈ gTbl := gTbl_of (List.mem_of_getElem? (i := 613) (by decide +kernel)) (by decide +kernel)
theorem ml_X7_193 : Cond.methodLink RX7 193 yX4_filterSet ∈ gTbl := gTbl_of (List.mem_of_getElem? (i := 617) (by decide +kernel)) (by decide +kernel)
theorem ml_X7_196 : Cond.methodLink RX7 196 yX7_floatBits ∈ gTbl := gTbl_of (List.mem_of_getElem? (i := 618) (by decide +kernel)) (by decide +kernel)
theorem cn_X7_274 : Cond.constantFloat RX7 274 (1258291200) ∈ gTbl := gTbl_of (List.mem_of_getElem? (i := 621) (by decide +kernel)) (by decide +kernel)
theorem ml_L_82 : Cond.methodLink RL 82 yX7_best ∈ gTbl := gTbl_of (List.mem_of_getElem? (i := 622) (by decide +kernel)) (by decide +kernel)
theorem ml_X7_203 : Cond.methodLink RX7 203 yX1_wrongPages ∈ gTbl := gTbl_of (List.mem_of_getElem? (i := 626) (by decide +kernel)) (by decide +kernel)
theorem ml_X1_102 : Cond.methodLink RX1 102 yX0_cellSet ∈ gTbl := gTbl_of (List.mem_of_getElem? (i := 630) (by decide +kernel)) (by decide +kernel)
theorem ml_X1_105 : Cond.methodLink RX1 105 yX4_shelfSet ∈ gTbl := gTbl_of (List.mem_of_getElem? (i := 634) (by decide +kernel)) (by decide +kernel)
theorem ml_X1_108 : Cond.methodLink RX1 108 yJ6_bitCount_0f7a4 ∈ gTbl := gTbl_of (List.mem_of_getElem? (i := 635) (by decide +kernel)) (by decide +kernel)
theorem ml_L_86 : Cond.methodLink RL 86 yX7_plan ∈ gTbl := gTbl_of (List.mem_of_getElem? (i := 636) (by decide +kernel)) (by decide +kernel)
theorem ml_X7_207 : Cond.methodLink RX7 207 yX7_powerOfTen ∈ gTbl := gTbl_of (List.mem_of_getElem? (i := 640) (by decide +kernel)) (by decide +kernel)
theorem cn_X7_272 : Cond.constantLong RX7 272 (10) ∈ gTbl := gTbl_of (List.mem_of_getElem? (i := 643) (by decide +kernel)) (by decide +kernel)
theorem cn_X7_211 : Cond.constantLong RX7 211 (100) ∈ gTbl := gTbl_of (List.mem_of_getElem? (i := 644) (by decide +kernel)) (by decide +kernel)
theorem ml_X7_213 : Cond.methodLink RX7 213 yX1_cost ∈ gTbl := gTbl_of (List.mem_of_getElem? (i := 645) (by decide +kernel)) (by decide +kernel)
theorem ml_L_90 : Cond.methodLink RL 90 yX7_order ∈ gTbl := gTbl_of (List.mem_of_getElem? (i := 649) (by decide +kernel)) (by decide +kernel)
theorem ml_X7_216 : Cond.methodLink RX7 216 yX7_findCheapest ∈ gTbl := gTbl_of (List.mem_of_getElem? (i := 653) (by decide +kernel)) (by decide +kernel)
theorem ml_X7_278 : Cond.methodLink RX7 278 yX2_begin ∈ gTbl := gTbl_of (List.mem_of_getElem? (i := 657) (by decide +kernel)) (by decide +kernel)
theorem ml_X7_281 : Cond.methodLink RX7 281 yX7_triedCost ∈ gTbl := gTbl_of (List.mem_of_getElem? (i := 661) (by decide +kernel)) (by decide +kernel)
theorem ml_X7_219 : Cond.methodLink RX7 219 yX2_pageAt ∈ gTbl := gTbl_of (List.mem_of_getElem? (i := 665) (by decide +kernel)) (by decide +kernel)
theorem ml_X7_284 : Cond.methodLink RX7 284 yX2_take ∈ gTbl := gTbl_of (List.mem_of_getElem? (i := 669) (by decide +kernel)) (by decide +kernel)
theorem ml_X7_287 : Cond.methodLink RX7 287 yX2_advance ∈ gTbl := gTbl_of (List.mem_of_getElem? (i := 674) (by decide +kernel)) (by decide +kernel)
theorem ml_X2_23 : Cond.methodLink RX2 23 yX2_pageAt ∈ gTbl := gTbl_of (List.mem_of_getElem? (i := 678) (by decide +kernel)) (by decide +kernel)
theorem ml_X2_27 : Cond.methodLink RX2 27 yX2_swap ∈ gTbl := gTbl_of (List.mem_of_getElem? (i := 679) (by decide +kernel)) (by decide +kernel)
theorem ml_L_96 : Cond.methodLink RL 96 yX7_judge ∈ gTbl := gTbl_of (List.mem_of_getElem? (i := 683) (by decide +kernel)) (by decide +kernel)
theorem cn_X7_220 : Cond.constantLong RX7 220 (100000) ∈ gTbl := gTbl_of (List.mem_of_getElem? (i := 687) (by decide +kernel)) (by decide +kernel)
theorem ml_X7_222 : Cond.methodLink RX7 222 yX7_holds ∈ gTbl := gTbl_of (List.mem_of_getElem? (i := 688) (by decide +kernel)) (by decide +kernel)
theorem ml_L_101 : Cond.methodLink RL 101 yX7_see ∈ gTbl := gTbl_of (List.mem_of_getElem? (i := 691) (by decide +kernel)) (by decide +kernel)
theorem ml_X7_226 : Cond.methodLink RX7 226 yX5_add ∈ gTbl := gTbl_of (List.mem_of_getElem? (i := 695) (by decide +kernel)) (by decide +kernel)
theorem ml_L_105 : Cond.methodLink RL 105 yX7_unsee ∈ gTbl := gTbl_of (List.mem_of_getElem? (i := 699) (by decide +kernel)) (by decide +kernel)
theorem ml_L_109 : Cond.methodLink RL 109 yX7_which ∈ gTbl := gTbl_of (List.mem_of_getElem? (i := 703) (by decide +kernel)) (by decide +kernel)
theorem ml_X7_231 : Cond.methodLink RX7 231 yX5_agreeing ∈ gTbl := gTbl_of (List.mem_of_getElem? (i := 707) (by decide +kernel)) (by decide +kernel)
theorem ml_X5_26 : Cond.methodLink RX5 26 yX5_agrees ∈ gTbl := gTbl_of (List.mem_of_getElem? (i := 711) (by decide +kernel)) (by decide +kernel)
theorem ml_X5_30 : Cond.methodLink RX5 30 yX1_proxyAt ∈ gTbl := gTbl_of (List.mem_of_getElem? (i := 715) (by decide +kernel)) (by decide +kernel)
theorem ml_X5_36 : Cond.methodLink RX5 36 yX1_isSo ∈ gTbl := gTbl_of (List.mem_of_getElem? (i := 716) (by decide +kernel)) (by decide +kernel)
theorem ml_L_113 : Cond.methodLink RL 113 yX7_share ∈ gTbl := gTbl_of (List.mem_of_getElem? (i := 717) (by decide +kernel)) (by decide +kernel)
theorem ml_X7_235 : Cond.methodLink RX7 235 yX1_holders ∈ gTbl := gTbl_of (List.mem_of_getElem? (i := 721) (by decide +kernel)) (by decide +kernel)
theorem ml_X7_238 : Cond.methodLink RX7 238 yX7_ofFraction ∈ gTbl := gTbl_of (List.mem_of_getElem? (i := 725) (by decide +kernel)) (by decide +kernel)
theorem ml_X7_275 : Cond.methodLink RX7 275 yX7_commonDivisor ∈ gTbl := gTbl_of (List.mem_of_getElem? (i := 728) (by decide +kernel)) (by decide +kernel)
theorem ml_L_118 : Cond.methodLink RL 118 yX7_lost ∈ gTbl := gTbl_of (List.mem_of_getElem? (i := 731) (by decide +kernel)) (by decide +kernel)
theorem ml_X7_242 : Cond.methodLink RX7 242 yX1_servesWell ∈ gTbl := gTbl_of (List.mem_of_getElem? (i := 735) (by decide +kernel)) (by decide +kernel)
theorem ml_X1_172 : Cond.methodLink RX1 172 yX1_isSo ∈ gTbl := gTbl_of (List.mem_of_getElem? (i := 739) (by decide +kernel)) (by decide +kernel)
theorem ml_X1_176 : Cond.methodLink RX1 176 yX1_holders ∈ gTbl := gTbl_of (List.mem_of_getElem? (i := 740) (by decide +kernel)) (by decide +kernel)
theorem ml_X7_246 : Cond.methodLink RX7 246 yX7_wayWeight ∈ gTbl := gTbl_of (List.mem_of_getElem? (i := 741) (by decide +kernel)) (by decide +kernel)
theorem ml_L_123 : Cond.methodLink RL 123 yX7_seed ∈ gTbl := gTbl_of (List.mem_of_getElem? (i := 745) (by decide +kernel)) (by decide +kernel)
theorem ml_L_128 : Cond.methodLink RL 128 yX7_drawn ∈ gTbl := gTbl_of (List.mem_of_getElem? (i := 749) (by decide +kernel)) (by decide +kernel)
theorem cn_X7_249 : Cond.constantLong RX7 249 (6364136223846793005) ∈ gTbl := gTbl_of (List.mem_of_getElem? (i := 753) (by decide +kernel)) (by decide +kernel)
theorem cn_X7_251 : Cond.constantLong RX7 251 (1442695040888963407) ∈ gTbl := gTbl_of (List.mem_of_getElem? (i := 754) (by decide +kernel)) (by decide +kernel)
theorem ml_L_132 : Cond.methodLink RL 132 yX7_keep ∈ gTbl := gTbl_of (List.mem_of_getElem? (i := 755) (by decide +kernel)) (by decide +kernel)
theorem ml_X7_253 : Cond.methodLink RX7 253 yX7_netAt ∈ gTbl := gTbl_of (List.mem_of_getElem? (i := 759) (by decide +kernel)) (by decide +kernel)
theorem ml_L_136 : Cond.methodLink RL 136 yX7_again ∈ gTbl := gTbl_of (List.mem_of_getElem? (i := 760) (by decide +kernel)) (by decide +kernel)
theorem ml_L_140 : Cond.methodLink RL 140 yX7_count ∈ gTbl := gTbl_of (List.mem_of_getElem? (i := 764) (by decide +kernel)) (by decide +kernel)
theorem ml_X7_269 : Cond.methodLink RX7 269 yX1_allPages ∈ gTbl := gTbl_of (List.mem_of_getElem? (i := 768) (by decide +kernel)) (by decide +kernel)
theorem cl_L_10 : Cond.classLink RL 10 RX8 ∈ gTbl := gTbl_of (List.mem_of_getElem? (i := 772) (by decide +kernel)) (by decide +kernel)
theorem it_X8 : Cond.instantiable RX8 33 ∈ gTbl := gTbl_of (List.mem_of_getElem? (i := 773) (by decide +kernel)) (by decide +kernel)
theorem ml_L_12 : Cond.methodLink RL 12 yX8_init ∈ gTbl := gTbl_of (List.mem_of_getElem? (i := 774) (by decide +kernel)) (by decide +kernel)
theorem ml_X8_1 : Cond.methodLink RX8 1 ⟨"java/lang/Object", "<init>", "()V"⟩ ∈ gTbl := gTbl_of (List.mem_of_getElem? (i := 777) (by decide +kernel)) (by decide +kernel)
theorem fl_X8_75 : Cond.fieldLink RX8 75 "ShelfFiltersModel" "thrown" "I" ∈ gTbl := gTbl_of (List.mem_of_getElem? (i := 778) (by decide +kernel)) (by decide +kernel)
theorem fl_X8_7 : Cond.fieldLink RX8 7 "ShelfFiltersModel" "text" "[I" ∈ gTbl := gTbl_of (List.mem_of_getElem? (i := 779) (by decide +kernel)) (by decide +kernel)
theorem fl_X8_89 : Cond.fieldLink RX8 89 "ShelfFiltersModel" "textSize" "I" ∈ gTbl := gTbl_of (List.mem_of_getElem? (i := 780) (by decide +kernel)) (by decide +kernel)
theorem fl_X8_92 : Cond.fieldLink RX8 92 "ShelfFiltersModel" "place" "I" ∈ gTbl := gTbl_of (List.mem_of_getElem? (i := 781) (by decide +kernel)) (by decide +kernel)
theorem fl_X8_13 : Cond.fieldLink RX8 13 "ShelfFiltersModel" "cells" "I" ∈ gTbl := gTbl_of (List.mem_of_getElem? (i := 782) (by decide +kernel)) (by decide +kernel)
theorem fl_X8_17 : Cond.fieldLink RX8 17 "ShelfFiltersModel" "hashes" "I" ∈ gTbl := gTbl_of (List.mem_of_getElem? (i := 783) (by decide +kernel)) (by decide +kernel)
theorem fl_X8_20 : Cond.fieldLink RX8 20 "ShelfFiltersModel" "families" "I" ∈ gTbl := gTbl_of (List.mem_of_getElem? (i := 784) (by decide +kernel)) (by decide +kernel)
theorem fl_X8_23 : Cond.fieldLink RX8 23 "ShelfFiltersModel" "a" "[I" ∈ gTbl := gTbl_of (List.mem_of_getElem? (i := 785) (by decide +kernel)) (by decide +kernel)
theorem fl_X8_26 : Cond.fieldLink RX8 26 "ShelfFiltersModel" "b" "[I" ∈ gTbl := gTbl_of (List.mem_of_getElem? (i := 786) (by decide +kernel)) (by decide +kernel)
theorem fl_X8_78 : Cond.fieldLink RX8 78 "ShelfFiltersModel" "proxies" "I" ∈ gTbl := gTbl_of (List.mem_of_getElem? (i := 787) (by decide +kernel)) (by decide +kernel)
theorem fl_X8_29 : Cond.fieldLink RX8 29 "ShelfFiltersModel" "room" "[I" ∈ gTbl := gTbl_of (List.mem_of_getElem? (i := 788) (by decide +kernel)) (by decide +kernel)
theorem fl_X8_103 : Cond.fieldLink RX8 103 "ShelfFiltersModel" "readCells" "I" ∈ gTbl := gTbl_of (List.mem_of_getElem? (i := 789) (by decide +kernel)) (by decide +kernel)
theorem fl_X8_106 : Cond.fieldLink RX8 106 "ShelfFiltersModel" "readHashes" "I" ∈ gTbl := gTbl_of (List.mem_of_getElem? (i := 790) (by decide +kernel)) (by decide +kernel)
theorem fl_X8_109 : Cond.fieldLink RX8 109 "ShelfFiltersModel" "readFamilies" "I" ∈ gTbl := gTbl_of (List.mem_of_getElem? (i := 791) (by decide +kernel)) (by decide +kernel)
theorem fl_X8_32 : Cond.fieldLink RX8 32 "ShelfFiltersModel" "readA" "[I" ∈ gTbl := gTbl_of (List.mem_of_getElem? (i := 792) (by decide +kernel)) (by decide +kernel)
theorem fl_X8_35 : Cond.fieldLink RX8 35 "ShelfFiltersModel" "readB" "[I" ∈ gTbl := gTbl_of (List.mem_of_getElem? (i := 793) (by decide +kernel)) (by decide +kernel)
theorem fl_X8_112 : Cond.fieldLink RX8 112 "ShelfFiltersModel" "readProxies" "I" ∈ gTbl := gTbl_of (List.mem_of_getElem? (i := 794) (by decide +kernel)) (by decide +kernel)
theorem fl_X8_38 : Cond.fieldLink RX8 38 "ShelfFiltersModel" "readRoom" "[I" ∈ gTbl := gTbl_of (List.mem_of_getElem? (i := 795) (by decide +kernel)) (by decide +kernel)
theorem fl_X8_41 : Cond.fieldLink RX8 41 "ShelfFiltersModel" "readPage" "[I" ∈ gTbl := gTbl_of (List.mem_of_getElem? (i := 796) (by decide +kernel)) (by decide +kernel)
theorem fl_X8_44 : Cond.fieldLink RX8 44 "ShelfFiltersModel" "page" "[I" ∈ gTbl := gTbl_of (List.mem_of_getElem? (i := 797) (by decide +kernel)) (by decide +kernel)
theorem fl_X8_47 : Cond.fieldLink RX8 47 "ShelfFiltersModel" "trial" "[I" ∈ gTbl := gTbl_of (List.mem_of_getElem? (i := 798) (by decide +kernel)) (by decide +kernel)
theorem fl_X8_50 : Cond.fieldLink RX8 50 "ShelfFiltersModel" "book" "[I" ∈ gTbl := gTbl_of (List.mem_of_getElem? (i := 799) (by decide +kernel)) (by decide +kernel)
theorem fl_X8_159 : Cond.fieldLink RX8 159 "ShelfFiltersModel" "doings" "I" ∈ gTbl := gTbl_of (List.mem_of_getElem? (i := 800) (by decide +kernel)) (by decide +kernel)
theorem fl_X8_53 : Cond.fieldLink RX8 53 "ShelfFiltersModel" "kept" "[I" ∈ gTbl := gTbl_of (List.mem_of_getElem? (i := 801) (by decide +kernel)) (by decide +kernel)
theorem fl_X8_56 : Cond.fieldLink RX8 56 "ShelfFiltersModel" "isKept" "[Z" ∈ gTbl := gTbl_of (List.mem_of_getElem? (i := 802) (by decide +kernel)) (by decide +kernel)
theorem fl_X8_275 : Cond.fieldLink RX8 275 "ShelfFiltersModel" "seen" "I" ∈ gTbl := gTbl_of (List.mem_of_getElem? (i := 803) (by decide +kernel)) (by decide +kernel)
theorem fl_X8_60 : Cond.fieldLink RX8 60 "ShelfFiltersModel" "seenProxy" "[I" ∈ gTbl := gTbl_of (List.mem_of_getElem? (i := 804) (by decide +kernel)) (by decide +kernel)
theorem fl_X8_63 : Cond.fieldLink RX8 63 "ShelfFiltersModel" "seenWhat" "[I" ∈ gTbl := gTbl_of (List.mem_of_getElem? (i := 805) (by decide +kernel)) (by decide +kernel)
theorem fl_X8_66 : Cond.fieldLink RX8 66 "ShelfFiltersModel" "seenWas" "[I" ∈ gTbl := gTbl_of (List.mem_of_getElem? (i := 806) (by decide +kernel)) (by decide +kernel)
theorem fl_X8_299 : Cond.fieldLink RX8 299 "ShelfFiltersModel" "seed" "J" ∈ gTbl := gTbl_of (List.mem_of_getElem? (i := 807) (by decide +kernel)) (by decide +kernel)
theorem fl_X8_69 : Cond.fieldLink RX8 69 "ShelfFiltersModel" "asked" "[I" ∈ gTbl := gTbl_of (List.mem_of_getElem? (i := 808) (by decide +kernel)) (by decide +kernel)
theorem fl_X8_72 : Cond.fieldLink RX8 72 "ShelfFiltersModel" "best" "[I" ∈ gTbl := gTbl_of (List.mem_of_getElem? (i := 809) (by decide +kernel)) (by decide +kernel)
theorem fl_X8_251 : Cond.fieldLink RX8 251 "ShelfFiltersModel" "bestCost" "I" ∈ gTbl := gTbl_of (List.mem_of_getElem? (i := 810) (by decide +kernel)) (by decide +kernel)
theorem ml_L_17 : Cond.methodLink RL 17 yX8_write ∈ gTbl := gTbl_of (List.mem_of_getElem? (i := 878) (by decide +kernel)) (by decide +kernel)
theorem cn_X8_87 : Cond.constantLong RX8 87 (255) ∈ gTbl := gTbl_of (List.mem_of_getElem? (i := 882) (by decide +kernel)) (by decide +kernel)
theorem ml_X8_81 : Cond.methodLink RX8 81 yX8_in ∈ gTbl := gTbl_of (List.mem_of_getElem? (i := 883) (by decide +kernel)) (by decide +kernel)
theorem ml_L_22 : Cond.methodLink RL 22 yX8_wipe ∈ gTbl := gTbl_of (List.mem_of_getElem? (i := 886) (by decide +kernel)) (by decide +kernel)
theorem ml_L_26 : Cond.methodLink RL 26 yX8_fault ∈ gTbl := gTbl_of (List.mem_of_getElem? (i := 890) (by decide +kernel)) (by decide +kernel)
theorem ml_X8_147 : Cond.methodLink RX8 147 yX8_readNet ∈ gTbl := gTbl_of (List.mem_of_getElem? (i := 894) (by decide +kernel)) (by decide +kernel)
theorem ml_X8_141 : Cond.methodLink RX8 141 yX8_readHead ∈ gTbl := gTbl_of (List.mem_of_getElem? (i := 898) (by decide +kernel)) (by decide +kernel)
theorem ml_X8_95 : Cond.methodLink RX8 95 yX8_isFigure ∈ gTbl := gTbl_of (List.mem_of_getElem? (i := 902) (by decide +kernel)) (by decide +kernel)
theorem ml_X8_99 : Cond.methodLink RX8 99 yX8_taken ∈ gTbl := gTbl_of (List.mem_of_getElem? (i := 906) (by decide +kernel)) (by decide +kernel)
theorem ml_X8_144 : Cond.methodLink RX8 144 yX8_readPart ∈ gTbl := gTbl_of (List.mem_of_getElem? (i := 910) (by decide +kernel)) (by decide +kernel)
theorem ml_X8_131 : Cond.methodLink RX8 131 yX8_readFamily ∈ gTbl := gTbl_of (List.mem_of_getElem? (i := 914) (by decide +kernel)) (by decide +kernel)
theorem ml_X8_135 : Cond.methodLink RX8 135 yX8_readProxy ∈ gTbl := gTbl_of (List.mem_of_getElem? (i := 918) (by decide +kernel)) (by decide +kernel)
theorem ml_X8_138 : Cond.methodLink RX8 138 yX8_readShelf ∈ gTbl := gTbl_of (List.mem_of_getElem? (i := 922) (by decide +kernel)) (by decide +kernel)
theorem ml_X8_119 : Cond.methodLink RX8 119 yX8_hasRoom ∈ gTbl := gTbl_of (List.mem_of_getElem? (i := 926) (by decide +kernel)) (by decide +kernel)
theorem cn_X8_123 : Cond.constantLong RX8 123 (3) ∈ gTbl := gTbl_of (List.mem_of_getElem? (i := 930) (by decide +kernel)) (by decide +kernel)
theorem ml_X8_125 : Cond.methodLink RX8 125 yX8_mayCome ∈ gTbl := gTbl_of (List.mem_of_getElem? (i := 931) (by decide +kernel)) (by decide +kernel)
theorem ml_X8_115 : Cond.methodLink RX8 115 yX8_placeOf ∈ gTbl := gTbl_of (List.mem_of_getElem? (i := 935) (by decide +kernel)) (by decide +kernel)
theorem cn_X8_129 : Cond.constantLong RX8 129 (9) ∈ gTbl := gTbl_of (List.mem_of_getElem? (i := 938) (by decide +kernel)) (by decide +kernel)
theorem ml_L_30 : Cond.methodLink RL 30 yX8_net ∈ gTbl := gTbl_of (List.mem_of_getElem? (i := 939) (by decide +kernel)) (by decide +kernel)
theorem ml_X8_151 : Cond.methodLink RX8 151 yX8_makeAnew ∈ gTbl := gTbl_of (List.mem_of_getElem? (i := 943) (by decide +kernel)) (by decide +kernel)
theorem ml_X8_172 : Cond.methodLink RX8 172 yX8_tally ∈ gTbl := gTbl_of (List.mem_of_getElem? (i := 947) (by decide +kernel)) (by decide +kernel)
theorem ml_X8_162 : Cond.methodLink RX8 162 yX8_hashOf ∈ gTbl := gTbl_of (List.mem_of_getElem? (i := 951) (by decide +kernel)) (by decide +kernel)
theorem ml_X8_155 : Cond.methodLink RX8 155 yX8_filterOf ∈ gTbl := gTbl_of (List.mem_of_getElem? (i := 955) (by decide +kernel)) (by decide +kernel)
theorem ml_L_35 : Cond.methodLink RL 35 yX8_proxy ∈ gTbl := gTbl_of (List.mem_of_getElem? (i := 959) (by decide +kernel)) (by decide +kernel)
theorem ml_X8_200 : Cond.methodLink RX8 200 yX8_noProxy ∈ gTbl := gTbl_of (List.mem_of_getElem? (i := 963) (by decide +kernel)) (by decide +kernel)
theorem ml_X8_197 : Cond.methodLink RX8 197 yX8_shelfOf ∈ gTbl := gTbl_of (List.mem_of_getElem? (i := 967) (by decide +kernel)) (by decide +kernel)
theorem ml_X8_203 : Cond.methodLink RX8 203 yX8_falseOnes ∈ gTbl := gTbl_of (List.mem_of_getElem? (i := 970) (by decide +kernel)) (by decide +kernel)
theorem ml_X8_166 : Cond.methodLink RX8 166 yX8_has ∈ gTbl := gTbl_of (List.mem_of_getElem? (i := 974) (by decide +kernel)) (by decide +kernel)
theorem ml_X8_169 : Cond.methodLink RX8 169 yX8_isSaid ∈ gTbl := gTbl_of (List.mem_of_getElem? (i := 977) (by decide +kernel)) (by decide +kernel)
theorem ml_X8_206 : Cond.methodLink RX8 206 yX8_denied ∈ gTbl := gTbl_of (List.mem_of_getElem? (i := 981) (by decide +kernel)) (by decide +kernel)
theorem ml_X8_190 : Cond.methodLink RX8 190 yX8_summarySays ∈ gTbl := gTbl_of (List.mem_of_getElem? (i := 985) (by decide +kernel)) (by decide +kernel)
theorem ml_L_39 : Cond.methodLink RL 39 yX8_page ∈ gTbl := gTbl_of (List.mem_of_getElem? (i := 989) (by decide +kernel)) (by decide +kernel)
theorem cn_X8_209 : Cond.constantLong RX8 209 (8) ∈ gTbl := gTbl_of (List.mem_of_getElem? (i := 993) (by decide +kernel)) (by decide +kernel)
theorem ml_L_43 : Cond.methodLink RL 43 yX8_counter ∈ gTbl := gTbl_of (List.mem_of_getElem? (i := 994) (by decide +kernel)) (by decide +kernel)
theorem ml_L_48 : Cond.methodLink RL 48 yX8_hash ∈ gTbl := gTbl_of (List.mem_of_getElem? (i := 998) (by decide +kernel)) (by decide +kernel)
theorem ml_X8_211 : Cond.methodLink RX8 211 yX8_noPage ∈ gTbl := gTbl_of (List.mem_of_getElem? (i := 1002) (by decide +kernel)) (by decide +kernel)
theorem cn_X8_85 : Cond.constantLong RX8 85 (31) ∈ gTbl := gTbl_of (List.mem_of_getElem? (i := 1005) (by decide +kernel)) (by decide +kernel)
theorem ml_L_53 : Cond.methodLink RL 53 yX8_says ∈ gTbl := gTbl_of (List.mem_of_getElem? (i := 1006) (by decide +kernel)) (by decide +kernel)
theorem ml_L_57 : Cond.methodLink RL 57 yX8_ask ∈ gTbl := gTbl_of (List.mem_of_getElem? (i := 1010) (by decide +kernel)) (by decide +kernel)
theorem ml_X8_214 : Cond.methodLink RX8 214 yX8_note ∈ gTbl := gTbl_of (List.mem_of_getElem? (i := 1014) (by decide +kernel)) (by decide +kernel)
theorem ml_X8_217 : Cond.methodLink RX8 217 yX8_askOn ∈ gTbl := gTbl_of (List.mem_of_getElem? (i := 1018) (by decide +kernel)) (by decide +kernel)
theorem ml_X8_180 : Cond.methodLink RX8 180 yX8_freshen ∈ gTbl := gTbl_of (List.mem_of_getElem? (i := 1022) (by decide +kernel)) (by decide +kernel)
theorem ml_X8_186 : Cond.methodLink RX8 186 yX8_sendDue ∈ gTbl := gTbl_of (List.mem_of_getElem? (i := 1025) (by decide +kernel)) (by decide +kernel)
theorem ml_X8_183 : Cond.methodLink RX8 183 yX8_sendOn ∈ gTbl := gTbl_of (List.mem_of_getElem? (i := 1029) (by decide +kernel)) (by decide +kernel)
theorem ml_X8_194 : Cond.methodLink RX8 194 yX8_comeTo ∈ gTbl := gTbl_of (List.mem_of_getElem? (i := 1033) (by decide +kernel)) (by decide +kernel)
theorem ml_X8_176 : Cond.methodLink RX8 176 yX8_goOut ∈ gTbl := gTbl_of (List.mem_of_getElem? (i := 1037) (by decide +kernel)) (by decide +kernel)
theorem ml_L_61 : Cond.methodLink RL 61 yX8_drop ∈ gTbl := gTbl_of (List.mem_of_getElem? (i := 1041) (by decide +kernel)) (by decide +kernel)
theorem ml_X8_220 : Cond.methodLink RX8 220 yX8_dropOn ∈ gTbl := gTbl_of (List.mem_of_getElem? (i := 1045) (by decide +kernel)) (by decide +kernel)
theorem ml_L_65 : Cond.methodLink RL 65 yX8_send ∈ gTbl := gTbl_of (List.mem_of_getElem? (i := 1049) (by decide +kernel)) (by decide +kernel)
theorem ml_L_69 : Cond.methodLink RL 69 yX8_threshold ∈ gTbl := gTbl_of (List.mem_of_getElem? (i := 1053) (by decide +kernel)) (by decide +kernel)
theorem ml_L_73 : Cond.methodLink RL 73 yX8_use ∈ gTbl := gTbl_of (List.mem_of_getElem? (i := 1057) (by decide +kernel)) (by decide +kernel)
theorem ml_X8_223 : Cond.methodLink RX8 223 yX8_useOn ∈ gTbl := gTbl_of (List.mem_of_getElem? (i := 1061) (by decide +kernel)) (by decide +kernel)
theorem ml_L_77 : Cond.methodLink RL 77 yX8_undo ∈ gTbl := gTbl_of (List.mem_of_getElem? (i := 1065) (by decide +kernel)) (by decide +kernel)
theorem ml_L_81 : Cond.methodLink RL 81 yX8_weight ∈ gTbl := gTbl_of (List.mem_of_getElem? (i := 1069) (by decide +kernel)) (by decide +kernel)
theorem ml_X8_226 : Cond.methodLink RX8 226 yX8_ones ∈ gTbl := gTbl_of (List.mem_of_getElem? (i := 1073) (by decide +kernel)) (by decide +kernel)
theorem ml_X8_229 : Cond.methodLink RX8 229 yJxf58ca_floatToIntBits_5c35a ∈ gTbl := gTbl_of (List.mem_of_getElem? (i := 1076) (by decide +kernel)) (by decide +kernel)
theorem ml_Jxf58ca_59 : Cond.methodLink RJxf58ca 59 yJxf58ca_isNaN_12338 ∈ gTbl := gTbl_of (List.mem_of_getElem? (i := 1079) (by decide +kernel)) (by decide +kernel)
theorem ml_Jxf58ca_74 : Cond.methodLink RJxf58ca 74 ⟨"java/lang/Float", "floatToRawIntBits", "(F)I"⟩ ∈ gTbl := gTbl_of (List.mem_of_getElem? (i := 1082) (by decide +kernel)) (by decide +kernel)
theorem nt_floatToRawIntBits : Cond.native ⟨"java/lang/Float", "floatToRawIntBits", "(F)I"⟩ ∈ gTbl := gTbl_of (List.mem_of_getElem? (i := 1084) (by decide +kernel)) (by decide +kernel)
theorem cn_Jxf58ca_77 : Cond.constant RJxf58ca 77 (2143289344) ∈ gTbl := gTbl_of (List.mem_of_getElem? (i := 1085) (by decide +kernel)) (by decide +kernel)
theorem ml_L_85 : Cond.methodLink RL 85 yX8_best ∈ gTbl := gTbl_of (List.mem_of_getElem? (i := 1086) (by decide +kernel)) (by decide +kernel)
theorem ml_X8_235 : Cond.methodLink RX8 235 yX8_madeBy ∈ gTbl := gTbl_of (List.mem_of_getElem? (i := 1090) (by decide +kernel)) (by decide +kernel)
theorem ml_L_89 : Cond.methodLink RL 89 yX8_plan ∈ gTbl := gTbl_of (List.mem_of_getElem? (i := 1094) (by decide +kernel)) (by decide +kernel)
theorem cn_X8_239 : Cond.constantLong RX8 239 (4) ∈ gTbl := gTbl_of (List.mem_of_getElem? (i := 1098) (by decide +kernel)) (by decide +kernel)
theorem ml_X8_241 : Cond.methodLink RX8 241 yX8_power ∈ gTbl := gTbl_of (List.mem_of_getElem? (i := 1099) (by decide +kernel)) (by decide +kernel)
theorem ml_X8_244 : Cond.methodLink RX8 244 yX8_layTrial ∈ gTbl := gTbl_of (List.mem_of_getElem? (i := 1102) (by decide +kernel)) (by decide +kernel)
theorem ml_X8_247 : Cond.methodLink RX8 247 yX8_costOf ∈ gTbl := gTbl_of (List.mem_of_getElem? (i := 1106) (by decide +kernel)) (by decide +kernel)
theorem ml_L_93 : Cond.methodLink RL 93 yX8_order ∈ gTbl := gTbl_of (List.mem_of_getElem? (i := 1109) (by decide +kernel)) (by decide +kernel)
theorem cn_X8_258 : Cond.constantLong RX8 258 (5) ∈ gTbl := gTbl_of (List.mem_of_getElem? (i := 1113) (by decide +kernel)) (by decide +kernel)
theorem ml_X8_260 : Cond.methodLink RX8 260 yX8_layBest ∈ gTbl := gTbl_of (List.mem_of_getElem? (i := 1114) (by decide +kernel)) (by decide +kernel)
theorem ml_X8_254 : Cond.methodLink RX8 254 yX8_layOrder ∈ gTbl := gTbl_of (List.mem_of_getElem? (i := 1118) (by decide +kernel)) (by decide +kernel)
theorem ml_L_100 : Cond.methodLink RL 100 yX8_judge ∈ gTbl := gTbl_of (List.mem_of_getElem? (i := 1122) (by decide +kernel)) (by decide +kernel)
theorem cn_X8_264 : Cond.constantLong RX8 264 (100000) ∈ gTbl := gTbl_of (List.mem_of_getElem? (i := 1126) (by decide +kernel)) (by decide +kernel)
theorem ml_X8_266 : Cond.methodLink RX8 266 yX8_longPower ∈ gTbl := gTbl_of (List.mem_of_getElem? (i := 1127) (by decide +kernel)) (by decide +kernel)
theorem ml_X8_270 : Cond.methodLink RX8 270 yX8_does ∈ gTbl := gTbl_of (List.mem_of_getElem? (i := 1130) (by decide +kernel)) (by decide +kernel)
theorem ml_L_104 : Cond.methodLink RL 104 yX8_see ∈ gTbl := gTbl_of (List.mem_of_getElem? (i := 1134) (by decide +kernel)) (by decide +kernel)
theorem cn_X8_273 : Cond.constantLong RX8 273 (2) ∈ gTbl := gTbl_of (List.mem_of_getElem? (i := 1138) (by decide +kernel)) (by decide +kernel)
theorem ml_L_108 : Cond.methodLink RL 108 yX8_unsee ∈ gTbl := gTbl_of (List.mem_of_getElem? (i := 1139) (by decide +kernel)) (by decide +kernel)
theorem ml_L_112 : Cond.methodLink RL 112 yX8_which ∈ gTbl := gTbl_of (List.mem_of_getElem? (i := 1143) (by decide +kernel)) (by decide +kernel)
theorem ml_X8_278 : Cond.methodLink RX8 278 yX8_isSo ∈ gTbl := gTbl_of (List.mem_of_getElem? (i := 1147) (by decide +kernel)) (by decide +kernel)
theorem ml_L_117 : Cond.methodLink RL 117 yX8_share ∈ gTbl := gTbl_of (List.mem_of_getElem? (i := 1151) (by decide +kernel)) (by decide +kernel)
theorem ml_X8_284 : Cond.methodLink RX8 284 yX8_factorial ∈ gTbl := gTbl_of (List.mem_of_getElem? (i := 1155) (by decide +kernel)) (by decide +kernel)
theorem ml_X8_287 : Cond.methodLink RX8 287 yX8_hadBy ∈ gTbl := gTbl_of (List.mem_of_getElem? (i := 1158) (by decide +kernel)) (by decide +kernel)
theorem ml_X8_290 : Cond.methodLink RX8 290 yX8_fraction ∈ gTbl := gTbl_of (List.mem_of_getElem? (i := 1162) (by decide +kernel)) (by decide +kernel)
theorem ml_X8_281 : Cond.methodLink RX8 281 yX8_divisor ∈ gTbl := gTbl_of (List.mem_of_getElem? (i := 1165) (by decide +kernel)) (by decide +kernel)
theorem ml_L_122 : Cond.methodLink RL 122 yX8_lost ∈ gTbl := gTbl_of (List.mem_of_getElem? (i := 1168) (by decide +kernel)) (by decide +kernel)
theorem cn_X8_294 : Cond.constantLong RX8 294 (10) ∈ gTbl := gTbl_of (List.mem_of_getElem? (i := 1172) (by decide +kernel)) (by decide +kernel)
theorem ml_X8_296 : Cond.methodLink RX8 296 yX8_isRight ∈ gTbl := gTbl_of (List.mem_of_getElem? (i := 1173) (by decide +kernel)) (by decide +kernel)
theorem ml_L_127 : Cond.methodLink RL 127 yX8_seed ∈ gTbl := gTbl_of (List.mem_of_getElem? (i := 1177) (by decide +kernel)) (by decide +kernel)
theorem ml_L_131 : Cond.methodLink RL 131 yX8_drawn ∈ gTbl := gTbl_of (List.mem_of_getElem? (i := 1181) (by decide +kernel)) (by decide +kernel)
theorem cn_X8_303 : Cond.constantLong RX8 303 (20) ∈ gTbl := gTbl_of (List.mem_of_getElem? (i := 1185) (by decide +kernel)) (by decide +kernel)
theorem cn_X8_305 : Cond.constantLong RX8 305 (6364136223846793005) ∈ gTbl := gTbl_of (List.mem_of_getElem? (i := 1186) (by decide +kernel)) (by decide +kernel)
theorem cn_X8_307 : Cond.constantLong RX8 307 (1442695040888963407) ∈ gTbl := gTbl_of (List.mem_of_getElem? (i := 1187) (by decide +kernel)) (by decide +kernel)
theorem ml_L_135 : Cond.methodLink RL 135 yX8_keep ∈ gTbl := gTbl_of (List.mem_of_getElem? (i := 1188) (by decide +kernel)) (by decide +kernel)
theorem ml_L_139 : Cond.methodLink RL 139 yX8_again ∈ gTbl := gTbl_of (List.mem_of_getElem? (i := 1192) (by decide +kernel)) (by decide +kernel)
theorem ml_L_143 : Cond.methodLink RL 143 yX8_count ∈ gTbl := gTbl_of (List.mem_of_getElem? (i := 1196) (by decide +kernel)) (by decide +kernel)
theorem ml_X8_309 : Cond.methodLink RX8 309 yX8_onShelves ∈ gTbl := gTbl_of (List.mem_of_getElem? (i := 1200) (by decide +kernel)) (by decide +kernel)
theorem cn_L_94 : Cond.constantLong RL 94 (4294967295) ∈ gTbl := gTbl_of (List.mem_of_getElem? (i := 1204) (by decide +kernel)) (by decide +kernel)
theorem in_L : Cond.initialized RL ∈ gTbl := gTbl_of (List.mem_of_getElem? (i := 55) (by decide +kernel)) (by decide +kernel)
theorem in_X7 : Cond.initialized RX7 ∈ gTbl := gTbl_of (List.mem_of_getElem? (i := 56) (by decide +kernel)) (by decide +kernel)
theorem in_X6 : Cond.initialized RX6 ∈ gTbl := gTbl_of (List.mem_of_getElem? (i := 57) (by decide +kernel)) (by decide +kernel)
theorem in_X1 : Cond.initialized RX1 ∈ gTbl := gTbl_of (List.mem_of_getElem? (i := 58) (by decide +kernel)) (by decide +kernel)
theorem in_X0 : Cond.initialized RX0 ∈ gTbl := gTbl_of (List.mem_of_getElem? (i := 59) (by decide +kernel)) (by decide +kernel)
theorem in_X4 : Cond.initialized RX4 ∈ gTbl := gTbl_of (List.mem_of_getElem? (i := 60) (by decide +kernel)) (by decide +kernel)
theorem in_X3 : Cond.initialized RX3 ∈ gTbl := gTbl_of (List.mem_of_getElem? (i := 61) (by decide +kernel)) (by decide +kernel)
theorem in_X5 : Cond.initialized RX5 ∈ gTbl := gTbl_of (List.mem_of_getElem? (i := 62) (by decide +kernel)) (by decide +kernel)
theorem in_X2 : Cond.initialized RX2 ∈ gTbl := gTbl_of (List.mem_of_getElem? (i := 63) (by decide +kernel)) (by decide +kernel)
theorem in_X8 : Cond.initialized RX8 ∈ gTbl := gTbl_of (List.mem_of_getElem? (i := 64) (by decide +kernel)) (by decide +kernel)
theorem in_J6 : Cond.initialized RJ6 ∈ gTbl := gTbl_of (List.mem_of_getElem? (i := 65) (by decide +kernel)) (by decide +kernel)
theorem in_J9 : Cond.initialized RJ9 ∈ gTbl := gTbl_of (List.mem_of_getElem? (i := 66) (by decide +kernel)) (by decide +kernel)
theorem in_Jxf58ca : Cond.initialized RJxf58ca ∈ gTbl := gTbl_of (List.mem_of_getElem? (i := 67) (by decide +kernel)) (by decide +kernel)
theorem wc_X0_init : Cond.code yX0_init cX0_init 1 none ∈ gTbl := gTbl_of (List.mem_of_getElem? (i := 92) (by decide +kernel)) (by decide +kernel)
theorem wi_X0_init : Cond.instanceMethod yX0_init ∈ gTbl := gTbl_of (List.mem_of_getElem? (i := 91) (by decide +kernel)) (by decide +kernel)
theorem wc_X0_take : Cond.code yX0_take cX0_take 2 none ∈ gTbl := gTbl_of (List.mem_of_getElem? (i := 464) (by decide +kernel)) (by decide +kernel)
theorem pk_X0_take : MPI yX0_take cX0_take 2 none 1 := ⟨gTbl_of (List.mem_of_getElem? (i := 462) (by decide +kernel)) (by decide +kernel), gTbl_of (List.mem_of_getElem? (i := 463) (by decide +kernel)) (by decide +kernel), in_X0, wc_X0_take, by decide +kernel, by decide +kernel, by decide +kernel⟩
theorem wc_X0_begin : Cond.code yX0_begin cX0_begin 3 none ∈ gTbl := gTbl_of (List.mem_of_getElem? (i := 273) (by decide +kernel)) (by decide +kernel)
theorem pk_X0_begin : MPI yX0_begin cX0_begin 3 none 2 := ⟨gTbl_of (List.mem_of_getElem? (i := 271) (by decide +kernel)) (by decide +kernel), gTbl_of (List.mem_of_getElem? (i := 272) (by decide +kernel)) (by decide +kernel), in_X0, wc_X0_begin, by decide +kernel, by decide +kernel, by decide +kernel⟩
theorem wc_X0_addFamily : Cond.code yX0_addFamily cX0_addFamily 3 none ∈ gTbl := gTbl_of (List.mem_of_getElem? (i := 285) (by decide +kernel)) (by decide +kernel)
theorem pk_X0_addFamily : MPI yX0_addFamily cX0_addFamily 3 none 2 := ⟨gTbl_of (List.mem_of_getElem? (i := 283) (by decide +kernel)) (by decide +kernel), gTbl_of (List.mem_of_getElem? (i := 284) (by decide +kernel)) (by decide +kernel), in_X0, wc_X0_addFamily, by decide +kernel, by decide +kernel, by decide +kernel⟩
theorem wc_X0_isFamily : Cond.code yX0_isFamily cX0_isFamily 2 (some .boolean) ∈ gTbl := gTbl_of (List.mem_of_getElem? (i := 293) (by decide +kernel)) (by decide +kernel)
theorem pk_X0_isFamily : MPI yX0_isFamily cX0_isFamily 2 (some .boolean) 1 := ⟨gTbl_of (List.mem_of_getElem? (i := 291) (by decide +kernel)) (by decide +kernel), gTbl_of (List.mem_of_getElem? (i := 292) (by decide +kernel)) (by decide +kernel), in_X0, wc_X0_isFamily, by decide +kernel, by decide +kernel, by decide +kernel⟩
theorem wc_X0_cell : Cond.code yX0_cell cX0_cell 4 (some .int) ∈ gTbl := gTbl_of (List.mem_of_getElem? (i := 317) (by decide +kernel)) (by decide +kernel)
theorem pk_X0_cell : MPI yX0_cell cX0_cell 4 (some .int) 3 := ⟨gTbl_of (List.mem_of_getElem? (i := 315) (by decide +kernel)) (by decide +kernel), gTbl_of (List.mem_of_getElem? (i := 316) (by decide +kernel)) (by decide +kernel), in_X0, wc_X0_cell, by decide +kernel, by decide +kernel, by decide +kernel⟩
theorem wc_X0_cellSet : Cond.code yX0_cellSet cX0_cellSet 5 (some .int) ∈ gTbl := gTbl_of (List.mem_of_getElem? (i := 633) (by decide +kernel)) (by decide +kernel)
theorem pk_X0_cellSet : MPI yX0_cellSet cX0_cellSet 5 (some .int) 2 := ⟨gTbl_of (List.mem_of_getElem? (i := 631) (by decide +kernel)) (by decide +kernel), gTbl_of (List.mem_of_getElem? (i := 632) (by decide +kernel)) (by decide +kernel), in_X0, wc_X0_cellSet, by decide +kernel, by decide +kernel, by decide +kernel⟩
theorem wc_X0_contains : Cond.code yX0_contains cX0_contains 5 (some .boolean) ∈ gTbl := gTbl_of (List.mem_of_getElem? (i := 493) (by decide +kernel)) (by decide +kernel)
theorem pk_X0_contains : MPI yX0_contains cX0_contains 5 (some .boolean) 3 := ⟨gTbl_of (List.mem_of_getElem? (i := 491) (by decide +kernel)) (by decide +kernel), gTbl_of (List.mem_of_getElem? (i := 492) (by decide +kernel)) (by decide +kernel), in_X0, wc_X0_contains, by decide +kernel, by decide +kernel, by decide +kernel⟩
theorem wc_X0_pagesIn : Cond.code yX0_pagesIn cX0_pagesIn 5 (some .int) ∈ gTbl := gTbl_of (List.mem_of_getElem? (i := 489) (by decide +kernel)) (by decide +kernel)
theorem pk_X0_pagesIn : MPI yX0_pagesIn cX0_pagesIn 5 (some .int) 2 := ⟨gTbl_of (List.mem_of_getElem? (i := 487) (by decide +kernel)) (by decide +kernel), gTbl_of (List.mem_of_getElem? (i := 488) (by decide +kernel)) (by decide +kernel), in_X0, wc_X0_pagesIn, by decide +kernel, by decide +kernel, by decide +kernel⟩
theorem wc_X1_init : Cond.code yX1_init cX1_init 2 none ∈ gTbl := gTbl_of (List.mem_of_getElem? (i := 86) (by decide +kernel)) (by decide +kernel)
theorem wi_X1_init : Cond.instanceMethod yX1_init ∈ gTbl := gTbl_of (List.mem_of_getElem? (i := 85) (by decide +kernel)) (by decide +kernel)
theorem wc_X1_take : Cond.code yX1_take cX1_take 3 none ∈ gTbl := gTbl_of (List.mem_of_getElem? (i := 460) (by decide +kernel)) (by decide +kernel)
theorem pk_X1_take : MPI yX1_take cX1_take 3 none 1 := ⟨gTbl_of (List.mem_of_getElem? (i := 458) (by decide +kernel)) (by decide +kernel), gTbl_of (List.mem_of_getElem? (i := 459) (by decide +kernel)) (by decide +kernel), in_X1, wc_X1_take, by decide +kernel, by decide +kernel, by decide +kernel⟩
theorem wc_X1_begin : Cond.code yX1_begin cX1_begin 3 none ∈ gTbl := gTbl_of (List.mem_of_getElem? (i := 269) (by decide +kernel)) (by decide +kernel)
theorem pk_X1_begin : MPI yX1_begin cX1_begin 3 none 2 := ⟨gTbl_of (List.mem_of_getElem? (i := 267) (by decide +kernel)) (by decide +kernel), gTbl_of (List.mem_of_getElem? (i := 268) (by decide +kernel)) (by decide +kernel), in_X1, wc_X1_begin, by decide +kernel, by decide +kernel, by decide +kernel⟩
theorem wc_X1_clearCounts : Cond.code yX1_clearCounts cX1_clearCounts 1 none ∈ gTbl := gTbl_of (List.mem_of_getElem? (i := 277) (by decide +kernel)) (by decide +kernel)
theorem pk_X1_clearCounts : MPI yX1_clearCounts cX1_clearCounts 1 none 0 := ⟨gTbl_of (List.mem_of_getElem? (i := 276) (by decide +kernel)) (by decide +kernel), gTbl_of (List.mem_of_getElem? (i := 0) (by decide +kernel)) (by decide +kernel), in_X1, wc_X1_clearCounts, by decide +kernel, by decide +kernel, by decide +kernel⟩
theorem wc_X1_addProxy : Cond.code yX1_addProxy cX1_addProxy 3 none ∈ gTbl := gTbl_of (List.mem_of_getElem? (i := 414) (by decide +kernel)) (by decide +kernel)
theorem pk_X1_addProxy : MPI yX1_addProxy cX1_addProxy 3 none 2 := ⟨gTbl_of (List.mem_of_getElem? (i := 412) (by decide +kernel)) (by decide +kernel), gTbl_of (List.mem_of_getElem? (i := 413) (by decide +kernel)) (by decide +kernel), in_X1, wc_X1_addProxy, by decide +kernel, by decide +kernel, by decide +kernel⟩
theorem wc_X1_complete : Cond.code yX1_complete cX1_complete 1 none ∈ gTbl := gTbl_of (List.mem_of_getElem? (i := 281) (by decide +kernel)) (by decide +kernel)
theorem pk_X1_complete : MPI yX1_complete cX1_complete 1 none 0 := ⟨gTbl_of (List.mem_of_getElem? (i := 279) (by decide +kernel)) (by decide +kernel), gTbl_of (List.mem_of_getElem? (i := 280) (by decide +kernel)) (by decide +kernel), in_X1, wc_X1_complete, by decide +kernel, by decide +kernel, by decide +kernel⟩
theorem wc_X1_proxyAt : Cond.code yX1_proxyAt cX1_proxyAt 2 (some (.object "ShelfFilters$Proxy")) ∈ gTbl := gTbl_of (List.mem_of_getElem? (i := 297) (by decide +kernel)) (by decide +kernel)
theorem pk_X1_proxyAt : MPI yX1_proxyAt cX1_proxyAt 2 (some (.object "ShelfFilters$Proxy")) 1 := ⟨gTbl_of (List.mem_of_getElem? (i := 295) (by decide +kernel)) (by decide +kernel), gTbl_of (List.mem_of_getElem? (i := 296) (by decide +kernel)) (by decide +kernel), in_X1, wc_X1_proxyAt, by decide +kernel, by decide +kernel, by decide +kernel⟩
theorem wc_X1_anyRoom : Cond.code yX1_anyRoom cX1_anyRoom 3 (some .boolean) ∈ gTbl := gTbl_of (List.mem_of_getElem? (i := 423) (by decide +kernel)) (by decide +kernel)
theorem pk_X1_anyRoom : MPI yX1_anyRoom cX1_anyRoom 3 (some .boolean) 0 := ⟨gTbl_of (List.mem_of_getElem? (i := 421) (by decide +kernel)) (by decide +kernel), gTbl_of (List.mem_of_getElem? (i := 422) (by decide +kernel)) (by decide +kernel), in_X1, wc_X1_anyRoom, by decide +kernel, by decide +kernel, by decide +kernel⟩
theorem wc_X1_cost : Cond.code yX1_cost cX1_cost 1 (some .int) ∈ gTbl := gTbl_of (List.mem_of_getElem? (i := 648) (by decide +kernel)) (by decide +kernel)
theorem pk_X1_cost : MPI yX1_cost cX1_cost 1 (some .int) 0 := ⟨gTbl_of (List.mem_of_getElem? (i := 646) (by decide +kernel)) (by decide +kernel), gTbl_of (List.mem_of_getElem? (i := 647) (by decide +kernel)) (by decide +kernel), in_X1, wc_X1_cost, by decide +kernel, by decide +kernel, by decide +kernel⟩
theorem wc_X1_allPages : Cond.code yX1_allPages cX1_allPages 4 (some .int) ∈ gTbl := gTbl_of (List.mem_of_getElem? (i := 771) (by decide +kernel)) (by decide +kernel)
theorem pk_X1_allPages : MPI yX1_allPages cX1_allPages 4 (some .int) 0 := ⟨gTbl_of (List.mem_of_getElem? (i := 769) (by decide +kernel)) (by decide +kernel), gTbl_of (List.mem_of_getElem? (i := 770) (by decide +kernel)) (by decide +kernel), in_X1, wc_X1_allPages, by decide +kernel, by decide +kernel, by decide +kernel⟩
theorem wc_X1_holders : Cond.code yX1_holders cX1_holders 5 (some .int) ∈ gTbl := gTbl_of (List.mem_of_getElem? (i := 724) (by decide +kernel)) (by decide +kernel)
theorem pk_X1_holders : MPI yX1_holders cX1_holders 5 (some .int) 1 := ⟨gTbl_of (List.mem_of_getElem? (i := 722) (by decide +kernel)) (by decide +kernel), gTbl_of (List.mem_of_getElem? (i := 723) (by decide +kernel)) (by decide +kernel), in_X1, wc_X1_holders, by decide +kernel, by decide +kernel, by decide +kernel⟩
theorem wc_X1_isSo : Cond.code yX1_isSo cX1_isSo 5 (some .boolean) ∈ gTbl := gTbl_of (List.mem_of_getElem? (i := 528) (by decide +kernel)) (by decide +kernel)
theorem pk_X1_isSo : MPI yX1_isSo cX1_isSo 5 (some .boolean) 3 := ⟨gTbl_of (List.mem_of_getElem? (i := 526) (by decide +kernel)) (by decide +kernel), gTbl_of (List.mem_of_getElem? (i := 527) (by decide +kernel)) (by decide +kernel), in_X1, wc_X1_isSo, by decide +kernel, by decide +kernel, by decide +kernel⟩
theorem wc_X1_claimed : Cond.code yX1_claimed cX1_claimed 2 (some .int) ∈ gTbl := gTbl_of (List.mem_of_getElem? (i := 485) (by decide +kernel)) (by decide +kernel)
theorem pk_X1_claimed : MPI yX1_claimed cX1_claimed 2 (some .int) 1 := ⟨gTbl_of (List.mem_of_getElem? (i := 483) (by decide +kernel)) (by decide +kernel), gTbl_of (List.mem_of_getElem? (i := 484) (by decide +kernel)) (by decide +kernel), in_X1, wc_X1_claimed, by decide +kernel, by decide +kernel, by decide +kernel⟩
theorem wc_X1_wrongPages : Cond.code yX1_wrongPages cX1_wrongPages 5 (some .int) ∈ gTbl := gTbl_of (List.mem_of_getElem? (i := 629) (by decide +kernel)) (by decide +kernel)
theorem pk_X1_wrongPages : MPI yX1_wrongPages cX1_wrongPages 5 (some .int) 2 := ⟨gTbl_of (List.mem_of_getElem? (i := 627) (by decide +kernel)) (by decide +kernel), gTbl_of (List.mem_of_getElem? (i := 628) (by decide +kernel)) (by decide +kernel), in_X1, wc_X1_wrongPages, by decide +kernel, by decide +kernel, by decide +kernel⟩
theorem wc_X1_request : Cond.code yX1_request cX1_request 5 (some .int) ∈ gTbl := gTbl_of (List.mem_of_getElem? (i := 549) (by decide +kernel)) (by decide +kernel)
theorem pk_X1_request : MPI yX1_request cX1_request 5 (some .int) 2 := ⟨gTbl_of (List.mem_of_getElem? (i := 547) (by decide +kernel)) (by decide +kernel), gTbl_of (List.mem_of_getElem? (i := 548) (by decide +kernel)) (by decide +kernel), in_X1, wc_X1_request, by decide +kernel, by decide +kernel, by decide +kernel⟩
theorem wc_X1_searchOthers : Cond.code yX1_searchOthers cX1_searchOthers 5 (some .int) ∈ gTbl := gTbl_of (List.mem_of_getElem? (i := 565) (by decide +kernel)) (by decide +kernel)
theorem pk_X1_searchOthers : MPI yX1_searchOthers cX1_searchOthers 5 (some .int) 2 := ⟨gTbl_of (List.mem_of_getElem? (i := 564) (by decide +kernel)) (by decide +kernel), gTbl_of (List.mem_of_getElem? (i := 11) (by decide +kernel)) (by decide +kernel), in_X1, wc_X1_searchOthers, by decide +kernel, by decide +kernel, by decide +kernel⟩
theorem wc_X1_addPage : Cond.code yX1_addPage cX1_addPage 3 none ∈ gTbl := gTbl_of (List.mem_of_getElem? (i := 575) (by decide +kernel)) (by decide +kernel)
theorem pk_X1_addPage : MPI yX1_addPage cX1_addPage 3 none 2 := ⟨gTbl_of (List.mem_of_getElem? (i := 574) (by decide +kernel)) (by decide +kernel), gTbl_of (List.mem_of_getElem? (i := 13) (by decide +kernel)) (by decide +kernel), in_X1, wc_X1_addPage, by decide +kernel, by decide +kernel, by decide +kernel⟩
theorem wc_X1_removePage : Cond.code yX1_removePage cX1_removePage 3 none ∈ gTbl := gTbl_of (List.mem_of_getElem? (i := 569) (by decide +kernel)) (by decide +kernel)
theorem pk_X1_removePage : MPI yX1_removePage cX1_removePage 3 none 2 := ⟨gTbl_of (List.mem_of_getElem? (i := 568) (by decide +kernel)) (by decide +kernel), gTbl_of (List.mem_of_getElem? (i := 12) (by decide +kernel)) (by decide +kernel), in_X1, wc_X1_removePage, by decide +kernel, by decide +kernel, by decide +kernel⟩
theorem wc_X1_tally : Cond.code yX1_tally cX1_tally 5 none ∈ gTbl := gTbl_of (List.mem_of_getElem? (i := 313) (by decide +kernel)) (by decide +kernel)
theorem pk_X1_tally : MPI yX1_tally cX1_tally 5 none 3 := ⟨gTbl_of (List.mem_of_getElem? (i := 312) (by decide +kernel)) (by decide +kernel), gTbl_of (List.mem_of_getElem? (i := 2) (by decide +kernel)) (by decide +kernel), in_X1, wc_X1_tally, by decide +kernel, by decide +kernel, by decide +kernel⟩
theorem wc_X1_discard : Cond.code yX1_discard cX1_discard 3 (some .boolean) ∈ gTbl := gTbl_of (List.mem_of_getElem? (i := 589) (by decide +kernel)) (by decide +kernel)
theorem pk_X1_discard : MPI yX1_discard cX1_discard 3 (some .boolean) 2 := ⟨gTbl_of (List.mem_of_getElem? (i := 587) (by decide +kernel)) (by decide +kernel), gTbl_of (List.mem_of_getElem? (i := 588) (by decide +kernel)) (by decide +kernel), in_X1, wc_X1_discard, by decide +kernel, by decide +kernel, by decide +kernel⟩
theorem wc_X1_spread : Cond.code yX1_spread cX1_spread 2 (some .boolean) ∈ gTbl := gTbl_of (List.mem_of_getElem? (i := 325) (by decide +kernel)) (by decide +kernel)
theorem pk_X1_spread : MPI yX1_spread cX1_spread 2 (some .boolean) 1 := ⟨gTbl_of (List.mem_of_getElem? (i := 323) (by decide +kernel)) (by decide +kernel), gTbl_of (List.mem_of_getElem? (i := 324) (by decide +kernel)) (by decide +kernel), in_X1, wc_X1_spread, by decide +kernel, by decide +kernel, by decide +kernel⟩
theorem wc_X1_spreadDue : Cond.code yX1_spreadDue cX1_spreadDue 3 none ∈ gTbl := gTbl_of (List.mem_of_getElem? (i := 580) (by decide +kernel)) (by decide +kernel)
theorem pk_X1_spreadDue : MPI yX1_spreadDue cX1_spreadDue 3 none 0 := ⟨gTbl_of (List.mem_of_getElem? (i := 578) (by decide +kernel)) (by decide +kernel), gTbl_of (List.mem_of_getElem? (i := 579) (by decide +kernel)) (by decide +kernel), in_X1, wc_X1_spreadDue, by decide +kernel, by decide +kernel, by decide +kernel⟩
theorem wc_X1_adopt : Cond.code yX1_adopt cX1_adopt 4 (some .boolean) ∈ gTbl := gTbl_of (List.mem_of_getElem? (i := 289) (by decide +kernel)) (by decide +kernel)
theorem pk_X1_adopt : MPI yX1_adopt cX1_adopt 4 (some .boolean) 1 := ⟨gTbl_of (List.mem_of_getElem? (i := 287) (by decide +kernel)) (by decide +kernel), gTbl_of (List.mem_of_getElem? (i := 288) (by decide +kernel)) (by decide +kernel), in_X1, wc_X1_adopt, by decide +kernel, by decide +kernel, by decide +kernel⟩
theorem wc_X1_rebuild : Cond.code yX1_rebuild cX1_rebuild 3 none ∈ gTbl := gTbl_of (List.mem_of_getElem? (i := 301) (by decide +kernel)) (by decide +kernel)
theorem pk_X1_rebuild : MPI yX1_rebuild cX1_rebuild 3 none 1 := ⟨gTbl_of (List.mem_of_getElem? (i := 300) (by decide +kernel)) (by decide +kernel), gTbl_of (List.mem_of_getElem? (i := 1) (by decide +kernel)) (by decide +kernel), in_X1, wc_X1_rebuild, by decide +kernel, by decide +kernel, by decide +kernel⟩
theorem wc_X1_servesWell : Cond.code yX1_servesWell cX1_servesWell 7 (some .boolean) ∈ gTbl := gTbl_of (List.mem_of_getElem? (i := 738) (by decide +kernel)) (by decide +kernel)
theorem pk_X1_servesWell : MPI yX1_servesWell cX1_servesWell 7 (some .boolean) 3 := ⟨gTbl_of (List.mem_of_getElem? (i := 736) (by decide +kernel)) (by decide +kernel), gTbl_of (List.mem_of_getElem? (i := 737) (by decide +kernel)) (by decide +kernel), in_X1, wc_X1_servesWell, by decide +kernel, by decide +kernel, by decide +kernel⟩
theorem wc_X2_init : Cond.code yX2_init cX2_init 1 none ∈ gTbl := gTbl_of (List.mem_of_getElem? (i := 256) (by decide +kernel)) (by decide +kernel)
theorem wi_X2_init : Cond.instanceMethod yX2_init ∈ gTbl := gTbl_of (List.mem_of_getElem? (i := 255) (by decide +kernel)) (by decide +kernel)
theorem wc_X2_take : Cond.code yX2_take cX2_take 2 none ∈ gTbl := gTbl_of (List.mem_of_getElem? (i := 672) (by decide +kernel)) (by decide +kernel)
theorem pk_X2_take : MPI yX2_take cX2_take 2 none 1 := ⟨gTbl_of (List.mem_of_getElem? (i := 670) (by decide +kernel)) (by decide +kernel), gTbl_of (List.mem_of_getElem? (i := 671) (by decide +kernel)) (by decide +kernel), in_X2, wc_X2_take, by decide +kernel, by decide +kernel, by decide +kernel⟩
theorem wc_X2_pageAt : Cond.code yX2_pageAt cX2_pageAt 2 (some .int) ∈ gTbl := gTbl_of (List.mem_of_getElem? (i := 668) (by decide +kernel)) (by decide +kernel)
theorem pk_X2_pageAt : MPI yX2_pageAt cX2_pageAt 2 (some .int) 1 := ⟨gTbl_of (List.mem_of_getElem? (i := 666) (by decide +kernel)) (by decide +kernel), gTbl_of (List.mem_of_getElem? (i := 667) (by decide +kernel)) (by decide +kernel), in_X2, wc_X2_pageAt, by decide +kernel, by decide +kernel, by decide +kernel⟩
theorem wc_X2_begin : Cond.code yX2_begin cX2_begin 3 none ∈ gTbl := gTbl_of (List.mem_of_getElem? (i := 660) (by decide +kernel)) (by decide +kernel)
theorem pk_X2_begin : MPI yX2_begin cX2_begin 3 none 1 := ⟨gTbl_of (List.mem_of_getElem? (i := 658) (by decide +kernel)) (by decide +kernel), gTbl_of (List.mem_of_getElem? (i := 659) (by decide +kernel)) (by decide +kernel), in_X2, wc_X2_begin, by decide +kernel, by decide +kernel, by decide +kernel⟩
theorem wc_X2_advance : Cond.code yX2_advance cX2_advance 5 (some .boolean) ∈ gTbl := gTbl_of (List.mem_of_getElem? (i := 677) (by decide +kernel)) (by decide +kernel)
theorem pk_X2_advance : MPI yX2_advance cX2_advance 5 (some .boolean) 0 := ⟨gTbl_of (List.mem_of_getElem? (i := 675) (by decide +kernel)) (by decide +kernel), gTbl_of (List.mem_of_getElem? (i := 676) (by decide +kernel)) (by decide +kernel), in_X2, wc_X2_advance, by decide +kernel, by decide +kernel, by decide +kernel⟩
theorem wc_X2_swap : Cond.code yX2_swap cX2_swap 4 none ∈ gTbl := gTbl_of (List.mem_of_getElem? (i := 682) (by decide +kernel)) (by decide +kernel)
theorem pk_X2_swap : MPI yX2_swap cX2_swap 4 none 2 := ⟨gTbl_of (List.mem_of_getElem? (i := 681) (by decide +kernel)) (by decide +kernel), gTbl_of (List.mem_of_getElem? (i := 16) (by decide +kernel)) (by decide +kernel), in_X2, wc_X2_swap, by decide +kernel, by decide +kernel, by decide +kernel⟩
theorem wc_X3_init : Cond.code yX3_init cX3_init 2 none ∈ gTbl := gTbl_of (List.mem_of_getElem? (i := 215) (by decide +kernel)) (by decide +kernel)
theorem wi_X3_init : Cond.instanceMethod yX3_init ∈ gTbl := gTbl_of (List.mem_of_getElem? (i := 214) (by decide +kernel)) (by decide +kernel)
theorem wc_X3_forget : Cond.code yX3_forget cX3_forget 1 none ∈ gTbl := gTbl_of (List.mem_of_getElem? (i := 476) (by decide +kernel)) (by decide +kernel)
theorem pk_X3_forget : MPI yX3_forget cX3_forget 1 none 0 := ⟨gTbl_of (List.mem_of_getElem? (i := 474) (by decide +kernel)) (by decide +kernel), gTbl_of (List.mem_of_getElem? (i := 475) (by decide +kernel)) (by decide +kernel), in_X3, wc_X3_forget, by decide +kernel, by decide +kernel, by decide +kernel⟩
theorem wc_X3_record : Cond.code yX3_record cX3_record 3 none ∈ gTbl := gTbl_of (List.mem_of_getElem? (i := 538) (by decide +kernel)) (by decide +kernel)
theorem pk_X3_record : MPI yX3_record cX3_record 3 none 1 := ⟨gTbl_of (List.mem_of_getElem? (i := 536) (by decide +kernel)) (by decide +kernel), gTbl_of (List.mem_of_getElem? (i := 537) (by decide +kernel)) (by decide +kernel), in_X3, wc_X3_record, by decide +kernel, by decide +kernel, by decide +kernel⟩
theorem wc_X3_restore : Cond.code yX3_restore cX3_restore 4 (some .boolean) ∈ gTbl := gTbl_of (List.mem_of_getElem? (i := 612) (by decide +kernel)) (by decide +kernel)
theorem pk_X3_restore : MPI yX3_restore cX3_restore 4 (some .boolean) 1 := ⟨gTbl_of (List.mem_of_getElem? (i := 610) (by decide +kernel)) (by decide +kernel), gTbl_of (List.mem_of_getElem? (i := 611) (by decide +kernel)) (by decide +kernel), in_X3, wc_X3_restore, by decide +kernel, by decide +kernel, by decide +kernel⟩
theorem wc_X4_init : Cond.code yX4_init cX4_init 1 none ∈ gTbl := gTbl_of (List.mem_of_getElem? (i := 127) (by decide +kernel)) (by decide +kernel)
theorem wi_X4_init : Cond.instanceMethod yX4_init ∈ gTbl := gTbl_of (List.mem_of_getElem? (i := 126) (by decide +kernel)) (by decide +kernel)
theorem wc_X4_take : Cond.code yX4_take cX4_take 2 none ∈ gTbl := gTbl_of (List.mem_of_getElem? (i := 471) (by decide +kernel)) (by decide +kernel)
theorem pk_X4_take : MPI yX4_take cX4_take 2 none 1 := ⟨gTbl_of (List.mem_of_getElem? (i := 469) (by decide +kernel)) (by decide +kernel), gTbl_of (List.mem_of_getElem? (i := 470) (by decide +kernel)) (by decide +kernel), in_X4, wc_X4_take, by decide +kernel, by decide +kernel, by decide +kernel⟩
theorem wc_X4_begin : Cond.code yX4_begin cX4_begin 3 none ∈ gTbl := gTbl_of (List.mem_of_getElem? (i := 418) (by decide +kernel)) (by decide +kernel)
theorem pk_X4_begin : MPI yX4_begin cX4_begin 3 none 2 := ⟨gTbl_of (List.mem_of_getElem? (i := 416) (by decide +kernel)) (by decide +kernel), gTbl_of (List.mem_of_getElem? (i := 417) (by decide +kernel)) (by decide +kernel), in_X4, wc_X4_begin, by decide +kernel, by decide +kernel, by decide +kernel⟩
theorem wc_X4_clearCounters : Cond.code yX4_clearCounters cX4_clearCounters 2 none ∈ gTbl := gTbl_of (List.mem_of_getElem? (i := 305) (by decide +kernel)) (by decide +kernel)
theorem pk_X4_clearCounters : MPI yX4_clearCounters cX4_clearCounters 2 none 0 := ⟨gTbl_of (List.mem_of_getElem? (i := 303) (by decide +kernel)) (by decide +kernel), gTbl_of (List.mem_of_getElem? (i := 304) (by decide +kernel)) (by decide +kernel), in_X4, wc_X4_clearCounters, by decide +kernel, by decide +kernel, by decide +kernel⟩
theorem wc_X4_hasRoom : Cond.code yX4_hasRoom cX4_hasRoom 1 (some .boolean) ∈ gTbl := gTbl_of (List.mem_of_getElem? (i := 427) (by decide +kernel)) (by decide +kernel)
theorem pk_X4_hasRoom : MPI yX4_hasRoom cX4_hasRoom 1 (some .boolean) 0 := ⟨gTbl_of (List.mem_of_getElem? (i := 425) (by decide +kernel)) (by decide +kernel), gTbl_of (List.mem_of_getElem? (i := 426) (by decide +kernel)) (by decide +kernel), in_X4, wc_X4_hasRoom, by decide +kernel, by decide +kernel, by decide +kernel⟩
theorem wc_X4_pageAt : Cond.code yX4_pageAt cX4_pageAt 2 (some .int) ∈ gTbl := gTbl_of (List.mem_of_getElem? (i := 309) (by decide +kernel)) (by decide +kernel)
theorem pk_X4_pageAt : MPI yX4_pageAt cX4_pageAt 2 (some .int) 1 := ⟨gTbl_of (List.mem_of_getElem? (i := 307) (by decide +kernel)) (by decide +kernel), gTbl_of (List.mem_of_getElem? (i := 308) (by decide +kernel)) (by decide +kernel), in_X4, wc_X4_pageAt, by decide +kernel, by decide +kernel, by decide +kernel⟩
theorem wc_X4_placeOf : Cond.code yX4_placeOf cX4_placeOf 3 (some .int) ∈ gTbl := gTbl_of (List.mem_of_getElem? (i := 447) (by decide +kernel)) (by decide +kernel)
theorem pk_X4_placeOf : MPI yX4_placeOf cX4_placeOf 3 (some .int) 1 := ⟨gTbl_of (List.mem_of_getElem? (i := 445) (by decide +kernel)) (by decide +kernel), gTbl_of (List.mem_of_getElem? (i := 446) (by decide +kernel)) (by decide +kernel), in_X4, wc_X4_placeOf, by decide +kernel, by decide +kernel, by decide +kernel⟩
theorem wc_X4_has : Cond.code yX4_has cX4_has 2 (some .boolean) ∈ gTbl := gTbl_of (List.mem_of_getElem? (i := 443) (by decide +kernel)) (by decide +kernel)
theorem pk_X4_has : MPI yX4_has cX4_has 2 (some .boolean) 1 := ⟨gTbl_of (List.mem_of_getElem? (i := 441) (by decide +kernel)) (by decide +kernel), gTbl_of (List.mem_of_getElem? (i := 442) (by decide +kernel)) (by decide +kernel), in_X4, wc_X4_has, by decide +kernel, by decide +kernel, by decide +kernel⟩
theorem wc_X4_shelfSet : Cond.code yX4_shelfSet cX4_shelfSet 3 (some .int) ∈ gTbl := gTbl_of (List.mem_of_getElem? (i := 498) (by decide +kernel)) (by decide +kernel)
theorem pk_X4_shelfSet : MPI yX4_shelfSet cX4_shelfSet 3 (some .int) 0 := ⟨gTbl_of (List.mem_of_getElem? (i := 496) (by decide +kernel)) (by decide +kernel), gTbl_of (List.mem_of_getElem? (i := 497) (by decide +kernel)) (by decide +kernel), in_X4, wc_X4_shelfSet, by decide +kernel, by decide +kernel, by decide +kernel⟩
theorem wc_X4_addOldest : Cond.code yX4_addOldest cX4_addOldest 2 none ∈ gTbl := gTbl_of (List.mem_of_getElem? (i := 451) (by decide +kernel)) (by decide +kernel)
theorem pk_X4_addOldest : MPI yX4_addOldest cX4_addOldest 2 none 1 := ⟨gTbl_of (List.mem_of_getElem? (i := 449) (by decide +kernel)) (by decide +kernel), gTbl_of (List.mem_of_getElem? (i := 450) (by decide +kernel)) (by decide +kernel), in_X4, wc_X4_addOldest, by decide +kernel, by decide +kernel, by decide +kernel⟩
theorem wc_X4_addNewest : Cond.code yX4_addNewest cX4_addNewest 3 none ∈ gTbl := gTbl_of (List.mem_of_getElem? (i := 561) (by decide +kernel)) (by decide +kernel)
theorem pk_X4_addNewest : MPI yX4_addNewest cX4_addNewest 3 none 1 := ⟨gTbl_of (List.mem_of_getElem? (i := 559) (by decide +kernel)) (by decide +kernel), gTbl_of (List.mem_of_getElem? (i := 560) (by decide +kernel)) (by decide +kernel), in_X4, wc_X4_addNewest, by decide +kernel, by decide +kernel, by decide +kernel⟩
theorem wc_X4_removeAt : Cond.code yX4_removeAt cX4_removeAt 3 none ∈ gTbl := gTbl_of (List.mem_of_getElem? (i := 557) (by decide +kernel)) (by decide +kernel)
theorem pk_X4_removeAt : MPI yX4_removeAt cX4_removeAt 3 none 1 := ⟨gTbl_of (List.mem_of_getElem? (i := 555) (by decide +kernel)) (by decide +kernel), gTbl_of (List.mem_of_getElem? (i := 556) (by decide +kernel)) (by decide +kernel), in_X4, wc_X4_removeAt, by decide +kernel, by decide +kernel, by decide +kernel⟩
theorem wc_X4_renew : Cond.code yX4_renew cX4_renew 2 none ∈ gTbl := gTbl_of (List.mem_of_getElem? (i := 553) (by decide +kernel)) (by decide +kernel)
theorem pk_X4_renew : MPI yX4_renew cX4_renew 2 none 1 := ⟨gTbl_of (List.mem_of_getElem? (i := 551) (by decide +kernel)) (by decide +kernel), gTbl_of (List.mem_of_getElem? (i := 552) (by decide +kernel)) (by decide +kernel), in_X4, wc_X4_renew, by decide +kernel, by decide +kernel, by decide +kernel⟩
theorem wc_X4_move : Cond.code yX4_move cX4_move 3 none ∈ gTbl := gTbl_of (List.mem_of_getElem? (i := 321) (by decide +kernel)) (by decide +kernel)
theorem pk_X4_move : MPI yX4_move cX4_move 3 none 2 := ⟨gTbl_of (List.mem_of_getElem? (i := 319) (by decide +kernel)) (by decide +kernel), gTbl_of (List.mem_of_getElem? (i := 320) (by decide +kernel)) (by decide +kernel), in_X4, wc_X4_move, by decide +kernel, by decide +kernel, by decide +kernel⟩
theorem wc_X4_filterSet : Cond.code yX4_filterSet cX4_filterSet 3 (some .int) ∈ gTbl := gTbl_of (List.mem_of_getElem? (i := 329) (by decide +kernel)) (by decide +kernel)
theorem pk_X4_filterSet : MPI yX4_filterSet cX4_filterSet 3 (some .int) 0 := ⟨gTbl_of (List.mem_of_getElem? (i := 327) (by decide +kernel)) (by decide +kernel), gTbl_of (List.mem_of_getElem? (i := 328) (by decide +kernel)) (by decide +kernel), in_X4, wc_X4_filterSet, by decide +kernel, by decide +kernel, by decide +kernel⟩
theorem wc_X5_init : Cond.code yX5_init cX5_init 1 none ∈ gTbl := gTbl_of (List.mem_of_getElem? (i := 235) (by decide +kernel)) (by decide +kernel)
theorem wi_X5_init : Cond.instanceMethod yX5_init ∈ gTbl := gTbl_of (List.mem_of_getElem? (i := 234) (by decide +kernel)) (by decide +kernel)
theorem wc_X5_add : Cond.code yX5_add cX5_add 4 (some .boolean) ∈ gTbl := gTbl_of (List.mem_of_getElem? (i := 698) (by decide +kernel)) (by decide +kernel)
theorem pk_X5_add : MPI yX5_add cX5_add 4 (some .boolean) 3 := ⟨gTbl_of (List.mem_of_getElem? (i := 696) (by decide +kernel)) (by decide +kernel), gTbl_of (List.mem_of_getElem? (i := 697) (by decide +kernel)) (by decide +kernel), in_X5, wc_X5_add, by decide +kernel, by decide +kernel, by decide +kernel⟩
theorem wc_X5_agreeing : Cond.code yX5_agreeing cX5_agreeing 4 (some .int) ∈ gTbl := gTbl_of (List.mem_of_getElem? (i := 710) (by decide +kernel)) (by decide +kernel)
theorem pk_X5_agreeing : MPI yX5_agreeing cX5_agreeing 4 (some .int) 1 := ⟨gTbl_of (List.mem_of_getElem? (i := 708) (by decide +kernel)) (by decide +kernel), gTbl_of (List.mem_of_getElem? (i := 709) (by decide +kernel)) (by decide +kernel), in_X5, wc_X5_agreeing, by decide +kernel, by decide +kernel, by decide +kernel⟩
theorem wc_X5_agrees : Cond.code yX5_agrees cX5_agrees 5 (some .boolean) ∈ gTbl := gTbl_of (List.mem_of_getElem? (i := 714) (by decide +kernel)) (by decide +kernel)
theorem pk_X5_agrees : MPI yX5_agrees cX5_agrees 5 (some .boolean) 2 := ⟨gTbl_of (List.mem_of_getElem? (i := 713) (by decide +kernel)) (by decide +kernel), gTbl_of (List.mem_of_getElem? (i := 17) (by decide +kernel)) (by decide +kernel), in_X5, wc_X5_agrees, by decide +kernel, by decide +kernel, by decide +kernel⟩
theorem wc_X6_init : Cond.code yX6_init cX6_init 1 none ∈ gTbl := gTbl_of (List.mem_of_getElem? (i := 80) (by decide +kernel)) (by decide +kernel)
theorem wi_X6_init : Cond.instanceMethod yX6_init ∈ gTbl := gTbl_of (List.mem_of_getElem? (i := 79) (by decide +kernel)) (by decide +kernel)
theorem wc_X6_append : Cond.code yX6_append cX6_append 2 (some .boolean) ∈ gTbl := gTbl_of (List.mem_of_getElem? (i := 368) (by decide +kernel)) (by decide +kernel)
theorem pk_X6_append : MPI yX6_append cX6_append 2 (some .boolean) 1 := ⟨gTbl_of (List.mem_of_getElem? (i := 366) (by decide +kernel)) (by decide +kernel), gTbl_of (List.mem_of_getElem? (i := 367) (by decide +kernel)) (by decide +kernel), in_X6, wc_X6_append, by decide +kernel, by decide +kernel, by decide +kernel⟩
theorem wc_X6_read : Cond.code yX6_read cX6_read 2 (some .int) ∈ gTbl := gTbl_of (List.mem_of_getElem? (i := 380) (by decide +kernel)) (by decide +kernel)
theorem pk_X6_read : MPI yX6_read cX6_read 2 (some .int) 0 := ⟨gTbl_of (List.mem_of_getElem? (i := 378) (by decide +kernel)) (by decide +kernel), gTbl_of (List.mem_of_getElem? (i := 379) (by decide +kernel)) (by decide +kernel), in_X6, wc_X6_read, by decide +kernel, by decide +kernel, by decide +kernel⟩
theorem wc_X6_letter : Cond.code yX6_letter cX6_letter 1 (some .int) ∈ gTbl := gTbl_of (List.mem_of_getElem? (i := 392) (by decide +kernel)) (by decide +kernel)
theorem pk_X6_letter : MPI yX6_letter cX6_letter 1 (some .int) 0 := ⟨gTbl_of (List.mem_of_getElem? (i := 391) (by decide +kernel)) (by decide +kernel), gTbl_of (List.mem_of_getElem? (i := 5) (by decide +kernel)) (by decide +kernel), in_X6, wc_X6_letter, by decide +kernel, by decide +kernel, by decide +kernel⟩
theorem wc_X6_pass : Cond.code yX6_pass cX6_pass 2 (some .boolean) ∈ gTbl := gTbl_of (List.mem_of_getElem? (i := 388) (by decide +kernel)) (by decide +kernel)
theorem pk_X6_pass : MPI yX6_pass cX6_pass 2 (some .boolean) 1 := ⟨gTbl_of (List.mem_of_getElem? (i := 387) (by decide +kernel)) (by decide +kernel), gTbl_of (List.mem_of_getElem? (i := 4) (by decide +kernel)) (by decide +kernel), in_X6, wc_X6_pass, by decide +kernel, by decide +kernel, by decide +kernel⟩
theorem wc_X6_passDigit : Cond.code yX6_passDigit cX6_passDigit 4 (some .boolean) ∈ gTbl := gTbl_of (List.mem_of_getElem? (i := 396) (by decide +kernel)) (by decide +kernel)
theorem pk_X6_passDigit : MPI yX6_passDigit cX6_passDigit 4 (some .boolean) 2 := ⟨gTbl_of (List.mem_of_getElem? (i := 395) (by decide +kernel)) (by decide +kernel), gTbl_of (List.mem_of_getElem? (i := 6) (by decide +kernel)) (by decide +kernel), in_X6, wc_X6_passDigit, by decide +kernel, by decide +kernel, by decide +kernel⟩
theorem wc_X6_readHead : Cond.code yX6_readHead cX6_readHead 3 (some .boolean) ∈ gTbl := gTbl_of (List.mem_of_getElem? (i := 384) (by decide +kernel)) (by decide +kernel)
theorem pk_X6_readHead : MPI yX6_readHead cX6_readHead 3 (some .boolean) 0 := ⟨gTbl_of (List.mem_of_getElem? (i := 383) (by decide +kernel)) (by decide +kernel), gTbl_of (List.mem_of_getElem? (i := 3) (by decide +kernel)) (by decide +kernel), in_X6, wc_X6_readHead, by decide +kernel, by decide +kernel, by decide +kernel⟩
theorem wc_X6_readPart : Cond.code yX6_readPart cX6_readPart 1 (some .boolean) ∈ gTbl := gTbl_of (List.mem_of_getElem? (i := 401) (by decide +kernel)) (by decide +kernel)
theorem pk_X6_readPart : MPI yX6_readPart cX6_readPart 1 (some .boolean) 0 := ⟨gTbl_of (List.mem_of_getElem? (i := 400) (by decide +kernel)) (by decide +kernel), gTbl_of (List.mem_of_getElem? (i := 7) (by decide +kernel)) (by decide +kernel), in_X6, wc_X6_readPart, by decide +kernel, by decide +kernel, by decide +kernel⟩
theorem wc_X6_readFamily : Cond.code yX6_readFamily cX6_readFamily 2 (some .boolean) ∈ gTbl := gTbl_of (List.mem_of_getElem? (i := 405) (by decide +kernel)) (by decide +kernel)
theorem pk_X6_readFamily : MPI yX6_readFamily cX6_readFamily 2 (some .boolean) 0 := ⟨gTbl_of (List.mem_of_getElem? (i := 404) (by decide +kernel)) (by decide +kernel), gTbl_of (List.mem_of_getElem? (i := 8) (by decide +kernel)) (by decide +kernel), in_X6, wc_X6_readFamily, by decide +kernel, by decide +kernel, by decide +kernel⟩
theorem wc_X6_readProxy : Cond.code yX6_readProxy cX6_readProxy 2 (some .boolean) ∈ gTbl := gTbl_of (List.mem_of_getElem? (i := 410) (by decide +kernel)) (by decide +kernel)
theorem pk_X6_readProxy : MPI yX6_readProxy cX6_readProxy 2 (some .boolean) 0 := ⟨gTbl_of (List.mem_of_getElem? (i := 409) (by decide +kernel)) (by decide +kernel), gTbl_of (List.mem_of_getElem? (i := 9) (by decide +kernel)) (by decide +kernel), in_X6, wc_X6_readProxy, by decide +kernel, by decide +kernel, by decide +kernel⟩
theorem wc_X6_readShelved : Cond.code yX6_readShelved cX6_readShelved 4 (some .boolean) ∈ gTbl := gTbl_of (List.mem_of_getElem? (i := 431) (by decide +kernel)) (by decide +kernel)
theorem pk_X6_readShelved : MPI yX6_readShelved cX6_readShelved 4 (some .boolean) 0 := ⟨gTbl_of (List.mem_of_getElem? (i := 430) (by decide +kernel)) (by decide +kernel), gTbl_of (List.mem_of_getElem? (i := 10) (by decide +kernel)) (by decide +kernel), in_X6, wc_X6_readShelved, by decide +kernel, by decide +kernel, by decide +kernel⟩
theorem wc_X6_mayBegin : Cond.code yX6_mayBegin cX6_mayBegin 3 (some .boolean) ∈ gTbl := gTbl_of (List.mem_of_getElem? (i := 436) (by decide +kernel)) (by decide +kernel)
theorem pk_X6_mayBegin : MPS yX6_mayBegin cX6_mayBegin 3 (some .boolean) 2 := ⟨gTbl_of (List.mem_of_getElem? (i := 435) (by decide +kernel)) (by decide +kernel), in_X6, wc_X6_mayBegin, by decide +kernel, by decide +kernel, by decide +kernel⟩
theorem wc_X7_init : Cond.code yX7_init cX7_init 2 none ∈ gTbl := gTbl_of (List.mem_of_getElem? (i := 72) (by decide +kernel)) (by decide +kernel)
theorem wi_X7_init : Cond.instanceMethod yX7_init ∈ gTbl := gTbl_of (List.mem_of_getElem? (i := 71) (by decide +kernel)) (by decide +kernel)
theorem wc_X7_write : Cond.code yX7_write cX7_write 2 (some .int) ∈ gTbl := gTbl_of (List.mem_of_getElem? (i := 364) (by decide +kernel)) (by decide +kernel)
theorem pk_X7_write : MPI yX7_write cX7_write 2 (some .int) 1 := ⟨gTbl_of (List.mem_of_getElem? (i := 362) (by decide +kernel)) (by decide +kernel), gTbl_of (List.mem_of_getElem? (i := 363) (by decide +kernel)) (by decide +kernel), in_X7, wc_X7_write, by decide +kernel, by decide +kernel, by decide +kernel⟩
theorem wc_X7_wipe : Cond.code yX7_wipe cX7_wipe 2 (some .int) ∈ gTbl := gTbl_of (List.mem_of_getElem? (i := 372) (by decide +kernel)) (by decide +kernel)
theorem pk_X7_wipe : MPI yX7_wipe cX7_wipe 2 (some .int) 0 := ⟨gTbl_of (List.mem_of_getElem? (i := 370) (by decide +kernel)) (by decide +kernel), gTbl_of (List.mem_of_getElem? (i := 371) (by decide +kernel)) (by decide +kernel), in_X7, wc_X7_wipe, by decide +kernel, by decide +kernel, by decide +kernel⟩
theorem wc_X7_fault : Cond.code yX7_fault cX7_fault 1 (some .int) ∈ gTbl := gTbl_of (List.mem_of_getElem? (i := 376) (by decide +kernel)) (by decide +kernel)
theorem pk_X7_fault : MPI yX7_fault cX7_fault 1 (some .int) 0 := ⟨gTbl_of (List.mem_of_getElem? (i := 374) (by decide +kernel)) (by decide +kernel), gTbl_of (List.mem_of_getElem? (i := 375) (by decide +kernel)) (by decide +kernel), in_X7, wc_X7_fault, by decide +kernel, by decide +kernel, by decide +kernel⟩
theorem wc_X7_net : Cond.code yX7_net cX7_net 2 (some .int) ∈ gTbl := gTbl_of (List.mem_of_getElem? (i := 456) (by decide +kernel)) (by decide +kernel)
theorem pk_X7_net : MPI yX7_net cX7_net 2 (some .int) 0 := ⟨gTbl_of (List.mem_of_getElem? (i := 454) (by decide +kernel)) (by decide +kernel), gTbl_of (List.mem_of_getElem? (i := 455) (by decide +kernel)) (by decide +kernel), in_X7, wc_X7_net, by decide +kernel, by decide +kernel, by decide +kernel⟩
theorem wc_X7_proxy : Cond.code yX7_proxy cX7_proxy 4 (some .int) ∈ gTbl := gTbl_of (List.mem_of_getElem? (i := 480) (by decide +kernel)) (by decide +kernel)
theorem pk_X7_proxy : MPI yX7_proxy cX7_proxy 4 (some .int) 2 := ⟨gTbl_of (List.mem_of_getElem? (i := 478) (by decide +kernel)) (by decide +kernel), gTbl_of (List.mem_of_getElem? (i := 479) (by decide +kernel)) (by decide +kernel), in_X7, wc_X7_proxy, by decide +kernel, by decide +kernel, by decide +kernel⟩
theorem wc_X7_page : Cond.code yX7_page cX7_page 4 (some .int) ∈ gTbl := gTbl_of (List.mem_of_getElem? (i := 508) (by decide +kernel)) (by decide +kernel)
theorem pk_X7_page : MPI yX7_page cX7_page 4 (some .int) 2 := ⟨gTbl_of (List.mem_of_getElem? (i := 506) (by decide +kernel)) (by decide +kernel), gTbl_of (List.mem_of_getElem? (i := 507) (by decide +kernel)) (by decide +kernel), in_X7, wc_X7_page, by decide +kernel, by decide +kernel, by decide +kernel⟩
theorem wc_X7_counter : Cond.code yX7_counter cX7_counter 4 (some .int) ∈ gTbl := gTbl_of (List.mem_of_getElem? (i := 513) (by decide +kernel)) (by decide +kernel)
theorem pk_X7_counter : MPI yX7_counter cX7_counter 4 (some .int) 2 := ⟨gTbl_of (List.mem_of_getElem? (i := 511) (by decide +kernel)) (by decide +kernel), gTbl_of (List.mem_of_getElem? (i := 512) (by decide +kernel)) (by decide +kernel), in_X7, wc_X7_counter, by decide +kernel, by decide +kernel, by decide +kernel⟩
theorem wc_X7_hash : Cond.code yX7_hash cX7_hash 4 (some .int) ∈ gTbl := gTbl_of (List.mem_of_getElem? (i := 517) (by decide +kernel)) (by decide +kernel)
theorem pk_X7_hash : MPI yX7_hash cX7_hash 4 (some .int) 3 := ⟨gTbl_of (List.mem_of_getElem? (i := 515) (by decide +kernel)) (by decide +kernel), gTbl_of (List.mem_of_getElem? (i := 516) (by decide +kernel)) (by decide +kernel), in_X7, wc_X7_hash, by decide +kernel, by decide +kernel, by decide +kernel⟩
theorem wc_X7_says : Cond.code yX7_says cX7_says 5 (some .int) ∈ gTbl := gTbl_of (List.mem_of_getElem? (i := 524) (by decide +kernel)) (by decide +kernel)
theorem pk_X7_says : MPI yX7_says cX7_says 5 (some .int) 3 := ⟨gTbl_of (List.mem_of_getElem? (i := 522) (by decide +kernel)) (by decide +kernel), gTbl_of (List.mem_of_getElem? (i := 523) (by decide +kernel)) (by decide +kernel), in_X7, wc_X7_says, by decide +kernel, by decide +kernel, by decide +kernel⟩
theorem wc_X7_ask : Cond.code yX7_ask cX7_ask 3 (some .int) ∈ gTbl := gTbl_of (List.mem_of_getElem? (i := 534) (by decide +kernel)) (by decide +kernel)
theorem pk_X7_ask : MPI yX7_ask cX7_ask 3 (some .int) 2 := ⟨gTbl_of (List.mem_of_getElem? (i := 532) (by decide +kernel)) (by decide +kernel), gTbl_of (List.mem_of_getElem? (i := 533) (by decide +kernel)) (by decide +kernel), in_X7, wc_X7_ask, by decide +kernel, by decide +kernel, by decide +kernel⟩
theorem wc_X7_drop : Cond.code yX7_drop cX7_drop 4 (some .int) ∈ gTbl := gTbl_of (List.mem_of_getElem? (i := 584) (by decide +kernel)) (by decide +kernel)
theorem pk_X7_drop : MPI yX7_drop cX7_drop 4 (some .int) 2 := ⟨gTbl_of (List.mem_of_getElem? (i := 582) (by decide +kernel)) (by decide +kernel), gTbl_of (List.mem_of_getElem? (i := 583) (by decide +kernel)) (by decide +kernel), in_X7, wc_X7_drop, by decide +kernel, by decide +kernel, by decide +kernel⟩
theorem wc_X7_send : Cond.code yX7_send cX7_send 3 (some .int) ∈ gTbl := gTbl_of (List.mem_of_getElem? (i := 593) (by decide +kernel)) (by decide +kernel)
theorem pk_X7_send : MPI yX7_send cX7_send 3 (some .int) 1 := ⟨gTbl_of (List.mem_of_getElem? (i := 591) (by decide +kernel)) (by decide +kernel), gTbl_of (List.mem_of_getElem? (i := 592) (by decide +kernel)) (by decide +kernel), in_X7, wc_X7_send, by decide +kernel, by decide +kernel, by decide +kernel⟩
theorem wc_X7_threshold : Cond.code yX7_threshold cX7_threshold 5 (some .int) ∈ gTbl := gTbl_of (List.mem_of_getElem? (i := 598) (by decide +kernel)) (by decide +kernel)
theorem pk_X7_threshold : MPI yX7_threshold cX7_threshold 5 (some .int) 2 := ⟨gTbl_of (List.mem_of_getElem? (i := 596) (by decide +kernel)) (by decide +kernel), gTbl_of (List.mem_of_getElem? (i := 597) (by decide +kernel)) (by decide +kernel), in_X7, wc_X7_threshold, by decide +kernel, by decide +kernel, by decide +kernel⟩
theorem wc_X7_use : Cond.code yX7_use cX7_use 3 (some .int) ∈ gTbl := gTbl_of (List.mem_of_getElem? (i := 603) (by decide +kernel)) (by decide +kernel)
theorem pk_X7_use : MPI yX7_use cX7_use 3 (some .int) 1 := ⟨gTbl_of (List.mem_of_getElem? (i := 601) (by decide +kernel)) (by decide +kernel), gTbl_of (List.mem_of_getElem? (i := 602) (by decide +kernel)) (by decide +kernel), in_X7, wc_X7_use, by decide +kernel, by decide +kernel, by decide +kernel⟩
theorem wc_X7_undo : Cond.code yX7_undo cX7_undo 1 (some .int) ∈ gTbl := gTbl_of (List.mem_of_getElem? (i := 608) (by decide +kernel)) (by decide +kernel)
theorem pk_X7_undo : MPI yX7_undo cX7_undo 1 (some .int) 0 := ⟨gTbl_of (List.mem_of_getElem? (i := 606) (by decide +kernel)) (by decide +kernel), gTbl_of (List.mem_of_getElem? (i := 607) (by decide +kernel)) (by decide +kernel), in_X7, wc_X7_undo, by decide +kernel, by decide +kernel, by decide +kernel⟩
theorem wc_X7_weight : Cond.code yX7_weight cX7_weight 6 (some .int) ∈ gTbl := gTbl_of (List.mem_of_getElem? (i := 616) (by decide +kernel)) (by decide +kernel)
theorem pk_X7_weight : MPI yX7_weight cX7_weight 6 (some .int) 1 := ⟨gTbl_of (List.mem_of_getElem? (i := 614) (by decide +kernel)) (by decide +kernel), gTbl_of (List.mem_of_getElem? (i := 615) (by decide +kernel)) (by decide +kernel), in_X7, wc_X7_weight, by decide +kernel, by decide +kernel, by decide +kernel⟩
theorem wc_X7_best : Cond.code yX7_best cX7_best 8 (some .int) ∈ gTbl := gTbl_of (List.mem_of_getElem? (i := 625) (by decide +kernel)) (by decide +kernel)
theorem pk_X7_best : MPI yX7_best cX7_best 8 (some .int) 2 := ⟨gTbl_of (List.mem_of_getElem? (i := 623) (by decide +kernel)) (by decide +kernel), gTbl_of (List.mem_of_getElem? (i := 624) (by decide +kernel)) (by decide +kernel), in_X7, wc_X7_best, by decide +kernel, by decide +kernel, by decide +kernel⟩
theorem wc_X7_plan : Cond.code yX7_plan cX7_plan 8 (some .int) ∈ gTbl := gTbl_of (List.mem_of_getElem? (i := 639) (by decide +kernel)) (by decide +kernel)
theorem pk_X7_plan : MPI yX7_plan cX7_plan 8 (some .int) 3 := ⟨gTbl_of (List.mem_of_getElem? (i := 637) (by decide +kernel)) (by decide +kernel), gTbl_of (List.mem_of_getElem? (i := 638) (by decide +kernel)) (by decide +kernel), in_X7, wc_X7_plan, by decide +kernel, by decide +kernel, by decide +kernel⟩
theorem wc_X7_order : Cond.code yX7_order cX7_order 6 (some .int) ∈ gTbl := gTbl_of (List.mem_of_getElem? (i := 652) (by decide +kernel)) (by decide +kernel)
theorem pk_X7_order : MPI yX7_order cX7_order 6 (some .int) 3 := ⟨gTbl_of (List.mem_of_getElem? (i := 650) (by decide +kernel)) (by decide +kernel), gTbl_of (List.mem_of_getElem? (i := 651) (by decide +kernel)) (by decide +kernel), in_X7, wc_X7_order, by decide +kernel, by decide +kernel, by decide +kernel⟩
theorem wc_X7_judge : Cond.code yX7_judge cX7_judge 7 (some .int) ∈ gTbl := gTbl_of (List.mem_of_getElem? (i := 686) (by decide +kernel)) (by decide +kernel)
theorem pk_X7_judge : MPI yX7_judge cX7_judge 7 (some .int) 2 := ⟨gTbl_of (List.mem_of_getElem? (i := 684) (by decide +kernel)) (by decide +kernel), gTbl_of (List.mem_of_getElem? (i := 685) (by decide +kernel)) (by decide +kernel), in_X7, wc_X7_judge, by decide +kernel, by decide +kernel, by decide +kernel⟩
theorem wc_X7_see : Cond.code yX7_see cX7_see 4 (some .int) ∈ gTbl := gTbl_of (List.mem_of_getElem? (i := 694) (by decide +kernel)) (by decide +kernel)
theorem pk_X7_see : MPI yX7_see cX7_see 4 (some .int) 3 := ⟨gTbl_of (List.mem_of_getElem? (i := 692) (by decide +kernel)) (by decide +kernel), gTbl_of (List.mem_of_getElem? (i := 693) (by decide +kernel)) (by decide +kernel), in_X7, wc_X7_see, by decide +kernel, by decide +kernel, by decide +kernel⟩
theorem wc_X7_unsee : Cond.code yX7_unsee cX7_unsee 2 (some .int) ∈ gTbl := gTbl_of (List.mem_of_getElem? (i := 702) (by decide +kernel)) (by decide +kernel)
theorem pk_X7_unsee : MPI yX7_unsee cX7_unsee 2 (some .int) 0 := ⟨gTbl_of (List.mem_of_getElem? (i := 700) (by decide +kernel)) (by decide +kernel), gTbl_of (List.mem_of_getElem? (i := 701) (by decide +kernel)) (by decide +kernel), in_X7, wc_X7_unsee, by decide +kernel, by decide +kernel, by decide +kernel⟩
theorem wc_X7_which : Cond.code yX7_which cX7_which 1 (some .int) ∈ gTbl := gTbl_of (List.mem_of_getElem? (i := 706) (by decide +kernel)) (by decide +kernel)
theorem pk_X7_which : MPI yX7_which cX7_which 1 (some .int) 0 := ⟨gTbl_of (List.mem_of_getElem? (i := 704) (by decide +kernel)) (by decide +kernel), gTbl_of (List.mem_of_getElem? (i := 705) (by decide +kernel)) (by decide +kernel), in_X7, wc_X7_which, by decide +kernel, by decide +kernel, by decide +kernel⟩
theorem wc_X7_share : Cond.code yX7_share cX7_share 7 (some .int) ∈ gTbl := gTbl_of (List.mem_of_getElem? (i := 720) (by decide +kernel)) (by decide +kernel)
theorem pk_X7_share : MPI yX7_share cX7_share 7 (some .int) 2 := ⟨gTbl_of (List.mem_of_getElem? (i := 718) (by decide +kernel)) (by decide +kernel), gTbl_of (List.mem_of_getElem? (i := 719) (by decide +kernel)) (by decide +kernel), in_X7, wc_X7_share, by decide +kernel, by decide +kernel, by decide +kernel⟩
theorem wc_X7_lost : Cond.code yX7_lost cX7_lost 9 (some .int) ∈ gTbl := gTbl_of (List.mem_of_getElem? (i := 734) (by decide +kernel)) (by decide +kernel)
theorem pk_X7_lost : MPI yX7_lost cX7_lost 9 (some .int) 4 := ⟨gTbl_of (List.mem_of_getElem? (i := 732) (by decide +kernel)) (by decide +kernel), gTbl_of (List.mem_of_getElem? (i := 733) (by decide +kernel)) (by decide +kernel), in_X7, wc_X7_lost, by decide +kernel, by decide +kernel, by decide +kernel⟩
theorem wc_X7_seed : Cond.code yX7_seed cX7_seed 5 (some .long) ∈ gTbl := gTbl_of (List.mem_of_getElem? (i := 748) (by decide +kernel)) (by decide +kernel)
theorem pk_X7_seed : MPI yX7_seed cX7_seed 5 (some .long) 1 := ⟨gTbl_of (List.mem_of_getElem? (i := 746) (by decide +kernel)) (by decide +kernel), gTbl_of (List.mem_of_getElem? (i := 747) (by decide +kernel)) (by decide +kernel), in_X7, wc_X7_seed, by decide +kernel, by decide +kernel, by decide +kernel⟩
theorem wc_X7_drawn : Cond.code yX7_drawn cX7_drawn 4 (some .int) ∈ gTbl := gTbl_of (List.mem_of_getElem? (i := 752) (by decide +kernel)) (by decide +kernel)
theorem pk_X7_drawn : MPI yX7_drawn cX7_drawn 4 (some .int) 1 := ⟨gTbl_of (List.mem_of_getElem? (i := 750) (by decide +kernel)) (by decide +kernel), gTbl_of (List.mem_of_getElem? (i := 751) (by decide +kernel)) (by decide +kernel), in_X7, wc_X7_drawn, by decide +kernel, by decide +kernel, by decide +kernel⟩
theorem wc_X7_keep : Cond.code yX7_keep cX7_keep 3 (some .int) ∈ gTbl := gTbl_of (List.mem_of_getElem? (i := 758) (by decide +kernel)) (by decide +kernel)
theorem pk_X7_keep : MPI yX7_keep cX7_keep 3 (some .int) 1 := ⟨gTbl_of (List.mem_of_getElem? (i := 756) (by decide +kernel)) (by decide +kernel), gTbl_of (List.mem_of_getElem? (i := 757) (by decide +kernel)) (by decide +kernel), in_X7, wc_X7_keep, by decide +kernel, by decide +kernel, by decide +kernel⟩
theorem wc_X7_again : Cond.code yX7_again cX7_again 3 (some .int) ∈ gTbl := gTbl_of (List.mem_of_getElem? (i := 763) (by decide +kernel)) (by decide +kernel)
theorem pk_X7_again : MPI yX7_again cX7_again 3 (some .int) 1 := ⟨gTbl_of (List.mem_of_getElem? (i := 761) (by decide +kernel)) (by decide +kernel), gTbl_of (List.mem_of_getElem? (i := 762) (by decide +kernel)) (by decide +kernel), in_X7, wc_X7_again, by decide +kernel, by decide +kernel, by decide +kernel⟩
theorem wc_X7_count : Cond.code yX7_count cX7_count 2 (some .int) ∈ gTbl := gTbl_of (List.mem_of_getElem? (i := 767) (by decide +kernel)) (by decide +kernel)
theorem pk_X7_count : MPI yX7_count cX7_count 2 (some .int) 1 := ⟨gTbl_of (List.mem_of_getElem? (i := 765) (by decide +kernel)) (by decide +kernel), gTbl_of (List.mem_of_getElem? (i := 766) (by decide +kernel)) (by decide +kernel), in_X7, wc_X7_count, by decide +kernel, by decide +kernel, by decide +kernel⟩
theorem wc_X7_isPage : Cond.code yX7_isPage cX7_isPage 1 (some .boolean) ∈ gTbl := gTbl_of (List.mem_of_getElem? (i := 439) (by decide +kernel)) (by decide +kernel)
theorem pk_X7_isPage : MPS yX7_isPage cX7_isPage 1 (some .boolean) 1 := ⟨gTbl_of (List.mem_of_getElem? (i := 438) (by decide +kernel)) (by decide +kernel), in_X7, wc_X7_isPage, by decide +kernel, by decide +kernel, by decide +kernel⟩
theorem wc_X7_netAt : Cond.code yX7_netAt cX7_netAt 2 (some (.object "ShelfFilters$Net")) ∈ gTbl := gTbl_of (List.mem_of_getElem? (i := 541) (by decide +kernel)) (by decide +kernel)
theorem pk_X7_netAt : MPS yX7_netAt cX7_netAt 2 (some (.object "ShelfFilters$Net")) 2 := ⟨gTbl_of (List.mem_of_getElem? (i := 540) (by decide +kernel)) (by decide +kernel), in_X7, wc_X7_netAt, by decide +kernel, by decide +kernel, by decide +kernel⟩
theorem wc_X7_copyRow : Cond.code yX7_copyRow cX7_copyRow 3 none ∈ gTbl := gTbl_of (List.mem_of_getElem? (i := 467) (by decide +kernel)) (by decide +kernel)
theorem pk_X7_copyRow : MPS yX7_copyRow cX7_copyRow 3 none 2 := ⟨gTbl_of (List.mem_of_getElem? (i := 466) (by decide +kernel)) (by decide +kernel), in_X7, wc_X7_copyRow, by decide +kernel, by decide +kernel, by decide +kernel⟩
theorem wc_X7_powerOfTen : Cond.code yX7_powerOfTen cX7_powerOfTen 4 (some .long) ∈ gTbl := gTbl_of (List.mem_of_getElem? (i := 642) (by decide +kernel)) (by decide +kernel)
theorem pk_X7_powerOfTen : MPS yX7_powerOfTen cX7_powerOfTen 4 (some .long) 1 := ⟨gTbl_of (List.mem_of_getElem? (i := 641) (by decide +kernel)) (by decide +kernel), in_X7, wc_X7_powerOfTen, by decide +kernel, by decide +kernel, by decide +kernel⟩
theorem wc_X7_floatBits : Cond.code yX7_floatBits cX7_floatBits 3 (some .int) ∈ gTbl := gTbl_of (List.mem_of_getElem? (i := 620) (by decide +kernel)) (by decide +kernel)
theorem pk_X7_floatBits : MPS yX7_floatBits cX7_floatBits 3 (some .int) 1 := ⟨gTbl_of (List.mem_of_getElem? (i := 619) (by decide +kernel)) (by decide +kernel), in_X7, wc_X7_floatBits, by decide +kernel, by decide +kernel, by decide +kernel⟩
theorem wc_X7_ofFraction : Cond.code yX7_ofFraction cX7_ofFraction 4 (some .int) ∈ gTbl := gTbl_of (List.mem_of_getElem? (i := 727) (by decide +kernel)) (by decide +kernel)
theorem pk_X7_ofFraction : MPS yX7_ofFraction cX7_ofFraction 4 (some .int) 3 := ⟨gTbl_of (List.mem_of_getElem? (i := 726) (by decide +kernel)) (by decide +kernel), in_X7, wc_X7_ofFraction, by decide +kernel, by decide +kernel, by decide +kernel⟩
theorem wc_X7_commonDivisor : Cond.code yX7_commonDivisor cX7_commonDivisor 6 (some .int) ∈ gTbl := gTbl_of (List.mem_of_getElem? (i := 730) (by decide +kernel)) (by decide +kernel)
theorem pk_X7_commonDivisor : MPS yX7_commonDivisor cX7_commonDivisor 6 (some .int) 2 := ⟨gTbl_of (List.mem_of_getElem? (i := 729) (by decide +kernel)) (by decide +kernel), in_X7, wc_X7_commonDivisor, by decide +kernel, by decide +kernel, by decide +kernel⟩
theorem wc_X7_wayWeight : Cond.code yX7_wayWeight cX7_wayWeight 5 (some .int) ∈ gTbl := gTbl_of (List.mem_of_getElem? (i := 744) (by decide +kernel)) (by decide +kernel)
theorem pk_X7_wayWeight : MPI yX7_wayWeight cX7_wayWeight 5 (some .int) 2 := ⟨gTbl_of (List.mem_of_getElem? (i := 743) (by decide +kernel)) (by decide +kernel), gTbl_of (List.mem_of_getElem? (i := 18) (by decide +kernel)) (by decide +kernel), in_X7, wc_X7_wayWeight, by decide +kernel, by decide +kernel, by decide +kernel⟩
theorem wc_X7_findCheapest : Cond.code yX7_findCheapest cX7_findCheapest 7 (some .int) ∈ gTbl := gTbl_of (List.mem_of_getElem? (i := 656) (by decide +kernel)) (by decide +kernel)
theorem pk_X7_findCheapest : MPI yX7_findCheapest cX7_findCheapest 7 (some .int) 2 := ⟨gTbl_of (List.mem_of_getElem? (i := 655) (by decide +kernel)) (by decide +kernel), gTbl_of (List.mem_of_getElem? (i := 14) (by decide +kernel)) (by decide +kernel), in_X7, wc_X7_findCheapest, by decide +kernel, by decide +kernel, by decide +kernel⟩
theorem wc_X7_triedCost : Cond.code yX7_triedCost cX7_triedCost 3 (some .int) ∈ gTbl := gTbl_of (List.mem_of_getElem? (i := 664) (by decide +kernel)) (by decide +kernel)
theorem pk_X7_triedCost : MPI yX7_triedCost cX7_triedCost 3 (some .int) 1 := ⟨gTbl_of (List.mem_of_getElem? (i := 663) (by decide +kernel)) (by decide +kernel), gTbl_of (List.mem_of_getElem? (i := 15) (by decide +kernel)) (by decide +kernel), in_X7, wc_X7_triedCost, by decide +kernel, by decide +kernel, by decide +kernel⟩
theorem wc_X7_holds : Cond.code yX7_holds cX7_holds 7 (some .boolean) ∈ gTbl := gTbl_of (List.mem_of_getElem? (i := 690) (by decide +kernel)) (by decide +kernel)
theorem pk_X7_holds : MPS yX7_holds cX7_holds 7 (some .boolean) 2 := ⟨gTbl_of (List.mem_of_getElem? (i := 689) (by decide +kernel)) (by decide +kernel), in_X7, wc_X7_holds, by decide +kernel, by decide +kernel, by decide +kernel⟩
theorem wc_X8_init : Cond.code yX8_init cX8_init 1 none ∈ gTbl := gTbl_of (List.mem_of_getElem? (i := 776) (by decide +kernel)) (by decide +kernel)
theorem wi_X8_init : Cond.instanceMethod yX8_init ∈ gTbl := gTbl_of (List.mem_of_getElem? (i := 775) (by decide +kernel)) (by decide +kernel)
theorem wc_X8_in : Cond.code yX8_in cX8_in 6 (some .boolean) ∈ gTbl := gTbl_of (List.mem_of_getElem? (i := 885) (by decide +kernel)) (by decide +kernel)
theorem pk_X8_in : MPS yX8_in cX8_in 6 (some .boolean) 3 := ⟨gTbl_of (List.mem_of_getElem? (i := 884) (by decide +kernel)) (by decide +kernel), in_X8, wc_X8_in, by decide +kernel, by decide +kernel, by decide +kernel⟩
theorem wc_X8_has : Cond.code yX8_has cX8_has 2 (some .boolean) ∈ gTbl := gTbl_of (List.mem_of_getElem? (i := 976) (by decide +kernel)) (by decide +kernel)
theorem pk_X8_has : MPS yX8_has cX8_has 2 (some .boolean) 2 := ⟨gTbl_of (List.mem_of_getElem? (i := 975) (by decide +kernel)) (by decide +kernel), in_X8, wc_X8_has, by decide +kernel, by decide +kernel, by decide +kernel⟩
theorem wc_X8_ones : Cond.code yX8_ones cX8_ones 3 (some .int) ∈ gTbl := gTbl_of (List.mem_of_getElem? (i := 1075) (by decide +kernel)) (by decide +kernel)
theorem pk_X8_ones : MPS yX8_ones cX8_ones 3 (some .int) 1 := ⟨gTbl_of (List.mem_of_getElem? (i := 1074) (by decide +kernel)) (by decide +kernel), in_X8, wc_X8_ones, by decide +kernel, by decide +kernel, by decide +kernel⟩
theorem wc_X8_power : Cond.code yX8_power cX8_power 4 (some .int) ∈ gTbl := gTbl_of (List.mem_of_getElem? (i := 1101) (by decide +kernel)) (by decide +kernel)
theorem pk_X8_power : MPS yX8_power cX8_power 4 (some .int) 2 := ⟨gTbl_of (List.mem_of_getElem? (i := 1100) (by decide +kernel)) (by decide +kernel), in_X8, wc_X8_power, by decide +kernel, by decide +kernel, by decide +kernel⟩
theorem wc_X8_layTrial : Cond.code yX8_layTrial cX8_layTrial 2 none ∈ gTbl := gTbl_of (List.mem_of_getElem? (i := 1105) (by decide +kernel)) (by decide +kernel)
theorem pk_X8_layTrial : MPI yX8_layTrial cX8_layTrial 2 none 0 := ⟨gTbl_of (List.mem_of_getElem? (i := 1104) (by decide +kernel)) (by decide +kernel), gTbl_of (List.mem_of_getElem? (i := 47) (by decide +kernel)) (by decide +kernel), in_X8, wc_X8_layTrial, by decide +kernel, by decide +kernel, by decide +kernel⟩
theorem wc_X8_noProxy : Cond.code yX8_noProxy cX8_noProxy 2 (some .boolean) ∈ gTbl := gTbl_of (List.mem_of_getElem? (i := 966) (by decide +kernel)) (by decide +kernel)
theorem pk_X8_noProxy : MPI yX8_noProxy cX8_noProxy 2 (some .boolean) 1 := ⟨gTbl_of (List.mem_of_getElem? (i := 965) (by decide +kernel)) (by decide +kernel), gTbl_of (List.mem_of_getElem? (i := 33) (by decide +kernel)) (by decide +kernel), in_X8, wc_X8_noProxy, by decide +kernel, by decide +kernel, by decide +kernel⟩
theorem wc_X8_noPage : Cond.code yX8_noPage cX8_noPage 1 (some .boolean) ∈ gTbl := gTbl_of (List.mem_of_getElem? (i := 1004) (by decide +kernel)) (by decide +kernel)
theorem pk_X8_noPage : MPS yX8_noPage cX8_noPage 1 (some .boolean) 1 := ⟨gTbl_of (List.mem_of_getElem? (i := 1003) (by decide +kernel)) (by decide +kernel), in_X8, wc_X8_noPage, by decide +kernel, by decide +kernel, by decide +kernel⟩
theorem wc_X8_write : Cond.code yX8_write cX8_write 2 (some .int) ∈ gTbl := gTbl_of (List.mem_of_getElem? (i := 881) (by decide +kernel)) (by decide +kernel)
theorem pk_X8_write : MPI yX8_write cX8_write 2 (some .int) 1 := ⟨gTbl_of (List.mem_of_getElem? (i := 879) (by decide +kernel)) (by decide +kernel), gTbl_of (List.mem_of_getElem? (i := 880) (by decide +kernel)) (by decide +kernel), in_X8, wc_X8_write, by decide +kernel, by decide +kernel, by decide +kernel⟩
theorem wc_X8_wipe : Cond.code yX8_wipe cX8_wipe 2 (some .int) ∈ gTbl := gTbl_of (List.mem_of_getElem? (i := 889) (by decide +kernel)) (by decide +kernel)
theorem pk_X8_wipe : MPI yX8_wipe cX8_wipe 2 (some .int) 0 := ⟨gTbl_of (List.mem_of_getElem? (i := 887) (by decide +kernel)) (by decide +kernel), gTbl_of (List.mem_of_getElem? (i := 888) (by decide +kernel)) (by decide +kernel), in_X8, wc_X8_wipe, by decide +kernel, by decide +kernel, by decide +kernel⟩
theorem wc_X8_isFigure : Cond.code yX8_isFigure cX8_isFigure 4 (some .boolean) ∈ gTbl := gTbl_of (List.mem_of_getElem? (i := 905) (by decide +kernel)) (by decide +kernel)
theorem pk_X8_isFigure : MPI yX8_isFigure cX8_isFigure 4 (some .boolean) 2 := ⟨gTbl_of (List.mem_of_getElem? (i := 904) (by decide +kernel)) (by decide +kernel), gTbl_of (List.mem_of_getElem? (i := 21) (by decide +kernel)) (by decide +kernel), in_X8, wc_X8_isFigure, by decide +kernel, by decide +kernel, by decide +kernel⟩
theorem wc_X8_taken : Cond.code yX8_taken cX8_taken 2 (some .int) ∈ gTbl := gTbl_of (List.mem_of_getElem? (i := 909) (by decide +kernel)) (by decide +kernel)
theorem pk_X8_taken : MPI yX8_taken cX8_taken 2 (some .int) 1 := ⟨gTbl_of (List.mem_of_getElem? (i := 908) (by decide +kernel)) (by decide +kernel), gTbl_of (List.mem_of_getElem? (i := 22) (by decide +kernel)) (by decide +kernel), in_X8, wc_X8_taken, by decide +kernel, by decide +kernel, by decide +kernel⟩
theorem wc_X8_readHead : Cond.code yX8_readHead cX8_readHead 2 (some .boolean) ∈ gTbl := gTbl_of (List.mem_of_getElem? (i := 901) (by decide +kernel)) (by decide +kernel)
theorem pk_X8_readHead : MPI yX8_readHead cX8_readHead 2 (some .boolean) 0 := ⟨gTbl_of (List.mem_of_getElem? (i := 900) (by decide +kernel)) (by decide +kernel), gTbl_of (List.mem_of_getElem? (i := 20) (by decide +kernel)) (by decide +kernel), in_X8, wc_X8_readHead, by decide +kernel, by decide +kernel, by decide +kernel⟩
theorem wc_X8_readFamily : Cond.code yX8_readFamily cX8_readFamily 1 (some .boolean) ∈ gTbl := gTbl_of (List.mem_of_getElem? (i := 917) (by decide +kernel)) (by decide +kernel)
theorem pk_X8_readFamily : MPI yX8_readFamily cX8_readFamily 1 (some .boolean) 0 := ⟨gTbl_of (List.mem_of_getElem? (i := 916) (by decide +kernel)) (by decide +kernel), gTbl_of (List.mem_of_getElem? (i := 24) (by decide +kernel)) (by decide +kernel), in_X8, wc_X8_readFamily, by decide +kernel, by decide +kernel, by decide +kernel⟩
theorem wc_X8_readProxy : Cond.code yX8_readProxy cX8_readProxy 1 (some .boolean) ∈ gTbl := gTbl_of (List.mem_of_getElem? (i := 921) (by decide +kernel)) (by decide +kernel)
theorem pk_X8_readProxy : MPI yX8_readProxy cX8_readProxy 1 (some .boolean) 0 := ⟨gTbl_of (List.mem_of_getElem? (i := 920) (by decide +kernel)) (by decide +kernel), gTbl_of (List.mem_of_getElem? (i := 25) (by decide +kernel)) (by decide +kernel), in_X8, wc_X8_readProxy, by decide +kernel, by decide +kernel, by decide +kernel⟩
theorem wc_X8_hasRoom : Cond.code yX8_hasRoom cX8_hasRoom 2 (some .boolean) ∈ gTbl := gTbl_of (List.mem_of_getElem? (i := 929) (by decide +kernel)) (by decide +kernel)
theorem pk_X8_hasRoom : MPI yX8_hasRoom cX8_hasRoom 2 (some .boolean) 1 := ⟨gTbl_of (List.mem_of_getElem? (i := 928) (by decide +kernel)) (by decide +kernel), gTbl_of (List.mem_of_getElem? (i := 27) (by decide +kernel)) (by decide +kernel), in_X8, wc_X8_hasRoom, by decide +kernel, by decide +kernel, by decide +kernel⟩
theorem wc_X8_mayCome : Cond.code yX8_mayCome cX8_mayCome 7 (some .boolean) ∈ gTbl := gTbl_of (List.mem_of_getElem? (i := 934) (by decide +kernel)) (by decide +kernel)
theorem pk_X8_mayCome : MPI yX8_mayCome cX8_mayCome 7 (some .boolean) 3 := ⟨gTbl_of (List.mem_of_getElem? (i := 933) (by decide +kernel)) (by decide +kernel), gTbl_of (List.mem_of_getElem? (i := 28) (by decide +kernel)) (by decide +kernel), in_X8, wc_X8_mayCome, by decide +kernel, by decide +kernel, by decide +kernel⟩
theorem wc_X8_readShelf : Cond.code yX8_readShelf cX8_readShelf 4 (some .boolean) ∈ gTbl := gTbl_of (List.mem_of_getElem? (i := 925) (by decide +kernel)) (by decide +kernel)
theorem pk_X8_readShelf : MPI yX8_readShelf cX8_readShelf 4 (some .boolean) 0 := ⟨gTbl_of (List.mem_of_getElem? (i := 924) (by decide +kernel)) (by decide +kernel), gTbl_of (List.mem_of_getElem? (i := 26) (by decide +kernel)) (by decide +kernel), in_X8, wc_X8_readShelf, by decide +kernel, by decide +kernel, by decide +kernel⟩
theorem wc_X8_readPart : Cond.code yX8_readPart cX8_readPart 1 (some .boolean) ∈ gTbl := gTbl_of (List.mem_of_getElem? (i := 913) (by decide +kernel)) (by decide +kernel)
theorem pk_X8_readPart : MPI yX8_readPart cX8_readPart 1 (some .boolean) 0 := ⟨gTbl_of (List.mem_of_getElem? (i := 912) (by decide +kernel)) (by decide +kernel), gTbl_of (List.mem_of_getElem? (i := 23) (by decide +kernel)) (by decide +kernel), in_X8, wc_X8_readPart, by decide +kernel, by decide +kernel, by decide +kernel⟩
theorem wc_X8_readNet : Cond.code yX8_readNet cX8_readNet 2 (some .int) ∈ gTbl := gTbl_of (List.mem_of_getElem? (i := 897) (by decide +kernel)) (by decide +kernel)
theorem pk_X8_readNet : MPI yX8_readNet cX8_readNet 2 (some .int) 0 := ⟨gTbl_of (List.mem_of_getElem? (i := 896) (by decide +kernel)) (by decide +kernel), gTbl_of (List.mem_of_getElem? (i := 19) (by decide +kernel)) (by decide +kernel), in_X8, wc_X8_readNet, by decide +kernel, by decide +kernel, by decide +kernel⟩
theorem wc_X8_fault : Cond.code yX8_fault cX8_fault 1 (some .int) ∈ gTbl := gTbl_of (List.mem_of_getElem? (i := 893) (by decide +kernel)) (by decide +kernel)
theorem pk_X8_fault : MPI yX8_fault cX8_fault 1 (some .int) 0 := ⟨gTbl_of (List.mem_of_getElem? (i := 891) (by decide +kernel)) (by decide +kernel), gTbl_of (List.mem_of_getElem? (i := 892) (by decide +kernel)) (by decide +kernel), in_X8, wc_X8_fault, by decide +kernel, by decide +kernel, by decide +kernel⟩
theorem wc_X8_net : Cond.code yX8_net cX8_net 2 (some .int) ∈ gTbl := gTbl_of (List.mem_of_getElem? (i := 942) (by decide +kernel)) (by decide +kernel)
theorem pk_X8_net : MPI yX8_net cX8_net 2 (some .int) 0 := ⟨gTbl_of (List.mem_of_getElem? (i := 940) (by decide +kernel)) (by decide +kernel), gTbl_of (List.mem_of_getElem? (i := 941) (by decide +kernel)) (by decide +kernel), in_X8, wc_X8_net, by decide +kernel, by decide +kernel, by decide +kernel⟩
theorem wc_X8_hashOf : Cond.code yX8_hashOf cX8_hashOf 4 (some .int) ∈ gTbl := gTbl_of (List.mem_of_getElem? (i := 954) (by decide +kernel)) (by decide +kernel)
theorem pk_X8_hashOf : MPI yX8_hashOf cX8_hashOf 4 (some .int) 3 := ⟨gTbl_of (List.mem_of_getElem? (i := 953) (by decide +kernel)) (by decide +kernel), gTbl_of (List.mem_of_getElem? (i := 31) (by decide +kernel)) (by decide +kernel), in_X8, wc_X8_hashOf, by decide +kernel, by decide +kernel, by decide +kernel⟩
theorem wc_X8_filterOf : Cond.code yX8_filterOf cX8_filterOf 5 (some .int) ∈ gTbl := gTbl_of (List.mem_of_getElem? (i := 958) (by decide +kernel)) (by decide +kernel)
theorem pk_X8_filterOf : MPI yX8_filterOf cX8_filterOf 5 (some .int) 2 := ⟨gTbl_of (List.mem_of_getElem? (i := 957) (by decide +kernel)) (by decide +kernel), gTbl_of (List.mem_of_getElem? (i := 32) (by decide +kernel)) (by decide +kernel), in_X8, wc_X8_filterOf, by decide +kernel, by decide +kernel, by decide +kernel⟩
theorem wc_X8_isSaid : Cond.code yX8_isSaid cX8_isSaid 6 (some .boolean) ∈ gTbl := gTbl_of (List.mem_of_getElem? (i := 980) (by decide +kernel)) (by decide +kernel)
theorem pk_X8_isSaid : MPI yX8_isSaid cX8_isSaid 6 (some .boolean) 3 := ⟨gTbl_of (List.mem_of_getElem? (i := 979) (by decide +kernel)) (by decide +kernel), gTbl_of (List.mem_of_getElem? (i := 35) (by decide +kernel)) (by decide +kernel), in_X8, wc_X8_isSaid, by decide +kernel, by decide +kernel, by decide +kernel⟩
theorem wc_X8_summarySays : Cond.code yX8_summarySays cX8_summarySays 4 (some .boolean) ∈ gTbl := gTbl_of (List.mem_of_getElem? (i := 988) (by decide +kernel)) (by decide +kernel)
theorem pk_X8_summarySays : MPI yX8_summarySays cX8_summarySays 4 (some .boolean) 3 := ⟨gTbl_of (List.mem_of_getElem? (i := 987) (by decide +kernel)) (by decide +kernel), gTbl_of (List.mem_of_getElem? (i := 37) (by decide +kernel)) (by decide +kernel), in_X8, wc_X8_summarySays, by decide +kernel, by decide +kernel, by decide +kernel⟩
theorem wc_X8_tally : Cond.code yX8_tally cX8_tally 7 none ∈ gTbl := gTbl_of (List.mem_of_getElem? (i := 950) (by decide +kernel)) (by decide +kernel)
theorem pk_X8_tally : MPI yX8_tally cX8_tally 7 none 4 := ⟨gTbl_of (List.mem_of_getElem? (i := 949) (by decide +kernel)) (by decide +kernel), gTbl_of (List.mem_of_getElem? (i := 30) (by decide +kernel)) (by decide +kernel), in_X8, wc_X8_tally, by decide +kernel, by decide +kernel, by decide +kernel⟩
theorem wc_X8_makeAnew : Cond.code yX8_makeAnew cX8_makeAnew 4 none ∈ gTbl := gTbl_of (List.mem_of_getElem? (i := 946) (by decide +kernel)) (by decide +kernel)
theorem pk_X8_makeAnew : MPI yX8_makeAnew cX8_makeAnew 4 none 2 := ⟨gTbl_of (List.mem_of_getElem? (i := 945) (by decide +kernel)) (by decide +kernel), gTbl_of (List.mem_of_getElem? (i := 29) (by decide +kernel)) (by decide +kernel), in_X8, wc_X8_makeAnew, by decide +kernel, by decide +kernel, by decide +kernel⟩
theorem wc_X8_placeOf : Cond.code yX8_placeOf cX8_placeOf 5 (some .int) ∈ gTbl := gTbl_of (List.mem_of_getElem? (i := 937) (by decide +kernel)) (by decide +kernel)
theorem pk_X8_placeOf : MPS yX8_placeOf cX8_placeOf 5 (some .int) 3 := ⟨gTbl_of (List.mem_of_getElem? (i := 936) (by decide +kernel)) (by decide +kernel), in_X8, wc_X8_placeOf, by decide +kernel, by decide +kernel, by decide +kernel⟩
theorem wc_X8_freshen : Cond.code yX8_freshen cX8_freshen 5 none ∈ gTbl := gTbl_of (List.mem_of_getElem? (i := 1024) (by decide +kernel)) (by decide +kernel)
theorem pk_X8_freshen : MPS yX8_freshen cX8_freshen 5 none 3 := ⟨gTbl_of (List.mem_of_getElem? (i := 1023) (by decide +kernel)) (by decide +kernel), in_X8, wc_X8_freshen, by decide +kernel, by decide +kernel, by decide +kernel⟩
theorem wc_X8_goOut : Cond.code yX8_goOut cX8_goOut 5 none ∈ gTbl := gTbl_of (List.mem_of_getElem? (i := 1040) (by decide +kernel)) (by decide +kernel)
theorem pk_X8_goOut : MPI yX8_goOut cX8_goOut 5 none 3 := ⟨gTbl_of (List.mem_of_getElem? (i := 1039) (by decide +kernel)) (by decide +kernel), gTbl_of (List.mem_of_getElem? (i := 43) (by decide +kernel)) (by decide +kernel), in_X8, wc_X8_goOut, by decide +kernel, by decide +kernel, by decide +kernel⟩
theorem wc_X8_comeTo : Cond.code yX8_comeTo cX8_comeTo 4 none ∈ gTbl := gTbl_of (List.mem_of_getElem? (i := 1036) (by decide +kernel)) (by decide +kernel)
theorem pk_X8_comeTo : MPI yX8_comeTo cX8_comeTo 4 none 3 := ⟨gTbl_of (List.mem_of_getElem? (i := 1035) (by decide +kernel)) (by decide +kernel), gTbl_of (List.mem_of_getElem? (i := 42) (by decide +kernel)) (by decide +kernel), in_X8, wc_X8_comeTo, by decide +kernel, by decide +kernel, by decide +kernel⟩
theorem wc_X8_sendOn : Cond.code yX8_sendOn cX8_sendOn 3 none ∈ gTbl := gTbl_of (List.mem_of_getElem? (i := 1032) (by decide +kernel)) (by decide +kernel)
theorem pk_X8_sendOn : MPI yX8_sendOn cX8_sendOn 3 none 2 := ⟨gTbl_of (List.mem_of_getElem? (i := 1031) (by decide +kernel)) (by decide +kernel), gTbl_of (List.mem_of_getElem? (i := 41) (by decide +kernel)) (by decide +kernel), in_X8, wc_X8_sendOn, by decide +kernel, by decide +kernel, by decide +kernel⟩
theorem wc_X8_sendDue : Cond.code yX8_sendDue cX8_sendDue 3 none ∈ gTbl := gTbl_of (List.mem_of_getElem? (i := 1028) (by decide +kernel)) (by decide +kernel)
theorem pk_X8_sendDue : MPI yX8_sendDue cX8_sendDue 3 none 1 := ⟨gTbl_of (List.mem_of_getElem? (i := 1027) (by decide +kernel)) (by decide +kernel), gTbl_of (List.mem_of_getElem? (i := 40) (by decide +kernel)) (by decide +kernel), in_X8, wc_X8_sendDue, by decide +kernel, by decide +kernel, by decide +kernel⟩
theorem wc_X8_askOn : Cond.code yX8_askOn cX8_askOn 8 (some .int) ∈ gTbl := gTbl_of (List.mem_of_getElem? (i := 1021) (by decide +kernel)) (by decide +kernel)
theorem pk_X8_askOn : MPI yX8_askOn cX8_askOn 8 (some .int) 3 := ⟨gTbl_of (List.mem_of_getElem? (i := 1020) (by decide +kernel)) (by decide +kernel), gTbl_of (List.mem_of_getElem? (i := 39) (by decide +kernel)) (by decide +kernel), in_X8, wc_X8_askOn, by decide +kernel, by decide +kernel, by decide +kernel⟩
theorem wc_X8_dropOn : Cond.code yX8_dropOn cX8_dropOn 4 none ∈ gTbl := gTbl_of (List.mem_of_getElem? (i := 1048) (by decide +kernel)) (by decide +kernel)
theorem pk_X8_dropOn : MPI yX8_dropOn cX8_dropOn 4 none 3 := ⟨gTbl_of (List.mem_of_getElem? (i := 1047) (by decide +kernel)) (by decide +kernel), gTbl_of (List.mem_of_getElem? (i := 44) (by decide +kernel)) (by decide +kernel), in_X8, wc_X8_dropOn, by decide +kernel, by decide +kernel, by decide +kernel⟩
theorem wc_X8_useOn : Cond.code yX8_useOn cX8_useOn 4 none ∈ gTbl := gTbl_of (List.mem_of_getElem? (i := 1064) (by decide +kernel)) (by decide +kernel)
theorem pk_X8_useOn : MPI yX8_useOn cX8_useOn 4 none 2 := ⟨gTbl_of (List.mem_of_getElem? (i := 1063) (by decide +kernel)) (by decide +kernel), gTbl_of (List.mem_of_getElem? (i := 45) (by decide +kernel)) (by decide +kernel), in_X8, wc_X8_useOn, by decide +kernel, by decide +kernel, by decide +kernel⟩
theorem wc_X8_shelfOf : Cond.code yX8_shelfOf cX8_shelfOf 4 (some .int) ∈ gTbl := gTbl_of (List.mem_of_getElem? (i := 969) (by decide +kernel)) (by decide +kernel)
theorem pk_X8_shelfOf : MPS yX8_shelfOf cX8_shelfOf 4 (some .int) 2 := ⟨gTbl_of (List.mem_of_getElem? (i := 968) (by decide +kernel)) (by decide +kernel), in_X8, wc_X8_shelfOf, by decide +kernel, by decide +kernel, by decide +kernel⟩
theorem wc_X8_falseOnes : Cond.code yX8_falseOnes cX8_falseOnes 6 (some .int) ∈ gTbl := gTbl_of (List.mem_of_getElem? (i := 973) (by decide +kernel)) (by decide +kernel)
theorem pk_X8_falseOnes : MPI yX8_falseOnes cX8_falseOnes 6 (some .int) 3 := ⟨gTbl_of (List.mem_of_getElem? (i := 972) (by decide +kernel)) (by decide +kernel), gTbl_of (List.mem_of_getElem? (i := 34) (by decide +kernel)) (by decide +kernel), in_X8, wc_X8_falseOnes, by decide +kernel, by decide +kernel, by decide +kernel⟩
theorem wc_X8_denied : Cond.code yX8_denied cX8_denied 4 (some .int) ∈ gTbl := gTbl_of (List.mem_of_getElem? (i := 984) (by decide +kernel)) (by decide +kernel)
theorem pk_X8_denied : MPI yX8_denied cX8_denied 4 (some .int) 1 := ⟨gTbl_of (List.mem_of_getElem? (i := 983) (by decide +kernel)) (by decide +kernel), gTbl_of (List.mem_of_getElem? (i := 36) (by decide +kernel)) (by decide +kernel), in_X8, wc_X8_denied, by decide +kernel, by decide +kernel, by decide +kernel⟩
theorem wc_X8_proxy : Cond.code yX8_proxy cX8_proxy 4 (some .int) ∈ gTbl := gTbl_of (List.mem_of_getElem? (i := 962) (by decide +kernel)) (by decide +kernel)
theorem pk_X8_proxy : MPI yX8_proxy cX8_proxy 4 (some .int) 2 := ⟨gTbl_of (List.mem_of_getElem? (i := 960) (by decide +kernel)) (by decide +kernel), gTbl_of (List.mem_of_getElem? (i := 961) (by decide +kernel)) (by decide +kernel), in_X8, wc_X8_proxy, by decide +kernel, by decide +kernel, by decide +kernel⟩
theorem wc_X8_page : Cond.code yX8_page cX8_page 3 (some .int) ∈ gTbl := gTbl_of (List.mem_of_getElem? (i := 992) (by decide +kernel)) (by decide +kernel)
theorem pk_X8_page : MPI yX8_page cX8_page 3 (some .int) 2 := ⟨gTbl_of (List.mem_of_getElem? (i := 990) (by decide +kernel)) (by decide +kernel), gTbl_of (List.mem_of_getElem? (i := 991) (by decide +kernel)) (by decide +kernel), in_X8, wc_X8_page, by decide +kernel, by decide +kernel, by decide +kernel⟩
theorem wc_X8_counter : Cond.code yX8_counter cX8_counter 3 (some .int) ∈ gTbl := gTbl_of (List.mem_of_getElem? (i := 997) (by decide +kernel)) (by decide +kernel)
theorem pk_X8_counter : MPI yX8_counter cX8_counter 3 (some .int) 2 := ⟨gTbl_of (List.mem_of_getElem? (i := 995) (by decide +kernel)) (by decide +kernel), gTbl_of (List.mem_of_getElem? (i := 996) (by decide +kernel)) (by decide +kernel), in_X8, wc_X8_counter, by decide +kernel, by decide +kernel, by decide +kernel⟩
theorem wc_X8_hash : Cond.code yX8_hash cX8_hash 4 (some .int) ∈ gTbl := gTbl_of (List.mem_of_getElem? (i := 1001) (by decide +kernel)) (by decide +kernel)
theorem pk_X8_hash : MPI yX8_hash cX8_hash 4 (some .int) 3 := ⟨gTbl_of (List.mem_of_getElem? (i := 999) (by decide +kernel)) (by decide +kernel), gTbl_of (List.mem_of_getElem? (i := 1000) (by decide +kernel)) (by decide +kernel), in_X8, wc_X8_hash, by decide +kernel, by decide +kernel, by decide +kernel⟩
theorem wc_X8_says : Cond.code yX8_says cX8_says 4 (some .int) ∈ gTbl := gTbl_of (List.mem_of_getElem? (i := 1009) (by decide +kernel)) (by decide +kernel)
theorem pk_X8_says : MPI yX8_says cX8_says 4 (some .int) 3 := ⟨gTbl_of (List.mem_of_getElem? (i := 1007) (by decide +kernel)) (by decide +kernel), gTbl_of (List.mem_of_getElem? (i := 1008) (by decide +kernel)) (by decide +kernel), in_X8, wc_X8_says, by decide +kernel, by decide +kernel, by decide +kernel⟩
theorem wc_X8_note : Cond.code yX8_note cX8_note 2 none ∈ gTbl := gTbl_of (List.mem_of_getElem? (i := 1017) (by decide +kernel)) (by decide +kernel)
theorem pk_X8_note : MPI yX8_note cX8_note 2 none 0 := ⟨gTbl_of (List.mem_of_getElem? (i := 1016) (by decide +kernel)) (by decide +kernel), gTbl_of (List.mem_of_getElem? (i := 38) (by decide +kernel)) (by decide +kernel), in_X8, wc_X8_note, by decide +kernel, by decide +kernel, by decide +kernel⟩
theorem wc_X8_ask : Cond.code yX8_ask cX8_ask 3 (some .int) ∈ gTbl := gTbl_of (List.mem_of_getElem? (i := 1013) (by decide +kernel)) (by decide +kernel)
theorem pk_X8_ask : MPI yX8_ask cX8_ask 3 (some .int) 2 := ⟨gTbl_of (List.mem_of_getElem? (i := 1011) (by decide +kernel)) (by decide +kernel), gTbl_of (List.mem_of_getElem? (i := 1012) (by decide +kernel)) (by decide +kernel), in_X8, wc_X8_ask, by decide +kernel, by decide +kernel, by decide +kernel⟩
theorem wc_X8_drop : Cond.code yX8_drop cX8_drop 4 (some .int) ∈ gTbl := gTbl_of (List.mem_of_getElem? (i := 1044) (by decide +kernel)) (by decide +kernel)
theorem pk_X8_drop : MPI yX8_drop cX8_drop 4 (some .int) 2 := ⟨gTbl_of (List.mem_of_getElem? (i := 1042) (by decide +kernel)) (by decide +kernel), gTbl_of (List.mem_of_getElem? (i := 1043) (by decide +kernel)) (by decide +kernel), in_X8, wc_X8_drop, by decide +kernel, by decide +kernel, by decide +kernel⟩
theorem wc_X8_send : Cond.code yX8_send cX8_send 2 (some .int) ∈ gTbl := gTbl_of (List.mem_of_getElem? (i := 1052) (by decide +kernel)) (by decide +kernel)
theorem pk_X8_send : MPI yX8_send cX8_send 2 (some .int) 1 := ⟨gTbl_of (List.mem_of_getElem? (i := 1050) (by decide +kernel)) (by decide +kernel), gTbl_of (List.mem_of_getElem? (i := 1051) (by decide +kernel)) (by decide +kernel), in_X8, wc_X8_send, by decide +kernel, by decide +kernel, by decide +kernel⟩
theorem wc_X8_threshold : Cond.code yX8_threshold cX8_threshold 4 (some .int) ∈ gTbl := gTbl_of (List.mem_of_getElem? (i := 1056) (by decide +kernel)) (by decide +kernel)
theorem pk_X8_threshold : MPI yX8_threshold cX8_threshold 4 (some .int) 2 := ⟨gTbl_of (List.mem_of_getElem? (i := 1054) (by decide +kernel)) (by decide +kernel), gTbl_of (List.mem_of_getElem? (i := 1055) (by decide +kernel)) (by decide +kernel), in_X8, wc_X8_threshold, by decide +kernel, by decide +kernel, by decide +kernel⟩
theorem wc_X8_use : Cond.code yX8_use cX8_use 3 (some .int) ∈ gTbl := gTbl_of (List.mem_of_getElem? (i := 1060) (by decide +kernel)) (by decide +kernel)
theorem pk_X8_use : MPI yX8_use cX8_use 3 (some .int) 1 := ⟨gTbl_of (List.mem_of_getElem? (i := 1058) (by decide +kernel)) (by decide +kernel), gTbl_of (List.mem_of_getElem? (i := 1059) (by decide +kernel)) (by decide +kernel), in_X8, wc_X8_use, by decide +kernel, by decide +kernel, by decide +kernel⟩
theorem wc_X8_undo : Cond.code yX8_undo cX8_undo 2 (some .int) ∈ gTbl := gTbl_of (List.mem_of_getElem? (i := 1068) (by decide +kernel)) (by decide +kernel)
theorem pk_X8_undo : MPI yX8_undo cX8_undo 2 (some .int) 0 := ⟨gTbl_of (List.mem_of_getElem? (i := 1066) (by decide +kernel)) (by decide +kernel), gTbl_of (List.mem_of_getElem? (i := 1067) (by decide +kernel)) (by decide +kernel), in_X8, wc_X8_undo, by decide +kernel, by decide +kernel, by decide +kernel⟩
theorem wc_X8_weight : Cond.code yX8_weight cX8_weight 3 (some .int) ∈ gTbl := gTbl_of (List.mem_of_getElem? (i := 1072) (by decide +kernel)) (by decide +kernel)
theorem pk_X8_weight : MPI yX8_weight cX8_weight 3 (some .int) 1 := ⟨gTbl_of (List.mem_of_getElem? (i := 1070) (by decide +kernel)) (by decide +kernel), gTbl_of (List.mem_of_getElem? (i := 1071) (by decide +kernel)) (by decide +kernel), in_X8, wc_X8_weight, by decide +kernel, by decide +kernel, by decide +kernel⟩
theorem wc_X8_madeBy : Cond.code yX8_madeBy cX8_madeBy 6 (some .int) ∈ gTbl := gTbl_of (List.mem_of_getElem? (i := 1093) (by decide +kernel)) (by decide +kernel)
theorem pk_X8_madeBy : MPI yX8_madeBy cX8_madeBy 6 (some .int) 2 := ⟨gTbl_of (List.mem_of_getElem? (i := 1092) (by decide +kernel)) (by decide +kernel), gTbl_of (List.mem_of_getElem? (i := 46) (by decide +kernel)) (by decide +kernel), in_X8, wc_X8_madeBy, by decide +kernel, by decide +kernel, by decide +kernel⟩
theorem wc_X8_best : Cond.code yX8_best cX8_best 8 (some .int) ∈ gTbl := gTbl_of (List.mem_of_getElem? (i := 1089) (by decide +kernel)) (by decide +kernel)
theorem pk_X8_best : MPI yX8_best cX8_best 8 (some .int) 2 := ⟨gTbl_of (List.mem_of_getElem? (i := 1087) (by decide +kernel)) (by decide +kernel), gTbl_of (List.mem_of_getElem? (i := 1088) (by decide +kernel)) (by decide +kernel), in_X8, wc_X8_best, by decide +kernel, by decide +kernel, by decide +kernel⟩
theorem wc_X8_costOf : Cond.code yX8_costOf cX8_costOf 1 (some .int) ∈ gTbl := gTbl_of (List.mem_of_getElem? (i := 1108) (by decide +kernel)) (by decide +kernel)
theorem pk_X8_costOf : MPS yX8_costOf cX8_costOf 1 (some .int) 1 := ⟨gTbl_of (List.mem_of_getElem? (i := 1107) (by decide +kernel)) (by decide +kernel), in_X8, wc_X8_costOf, by decide +kernel, by decide +kernel, by decide +kernel⟩
theorem wc_X8_plan : Cond.code yX8_plan cX8_plan 5 (some .int) ∈ gTbl := gTbl_of (List.mem_of_getElem? (i := 1097) (by decide +kernel)) (by decide +kernel)
theorem pk_X8_plan : MPI yX8_plan cX8_plan 5 (some .int) 3 := ⟨gTbl_of (List.mem_of_getElem? (i := 1095) (by decide +kernel)) (by decide +kernel), gTbl_of (List.mem_of_getElem? (i := 1096) (by decide +kernel)) (by decide +kernel), in_X8, wc_X8_plan, by decide +kernel, by decide +kernel, by decide +kernel⟩
theorem wc_X8_layOrder : Cond.code yX8_layOrder cX8_layOrder 10 none ∈ gTbl := gTbl_of (List.mem_of_getElem? (i := 1121) (by decide +kernel)) (by decide +kernel)
theorem pk_X8_layOrder : MPI yX8_layOrder cX8_layOrder 10 none 3 := ⟨gTbl_of (List.mem_of_getElem? (i := 1120) (by decide +kernel)) (by decide +kernel), gTbl_of (List.mem_of_getElem? (i := 49) (by decide +kernel)) (by decide +kernel), in_X8, wc_X8_layOrder, by decide +kernel, by decide +kernel, by decide +kernel⟩
theorem wc_X8_layBest : Cond.code yX8_layBest cX8_layBest 8 none ∈ gTbl := gTbl_of (List.mem_of_getElem? (i := 1117) (by decide +kernel)) (by decide +kernel)
theorem pk_X8_layBest : MPI yX8_layBest cX8_layBest 8 none 2 := ⟨gTbl_of (List.mem_of_getElem? (i := 1116) (by decide +kernel)) (by decide +kernel), gTbl_of (List.mem_of_getElem? (i := 48) (by decide +kernel)) (by decide +kernel), in_X8, wc_X8_layBest, by decide +kernel, by decide +kernel, by decide +kernel⟩
theorem wc_X8_order : Cond.code yX8_order cX8_order 5 (some .int) ∈ gTbl := gTbl_of (List.mem_of_getElem? (i := 1112) (by decide +kernel)) (by decide +kernel)
theorem pk_X8_order : MPI yX8_order cX8_order 5 (some .int) 3 := ⟨gTbl_of (List.mem_of_getElem? (i := 1110) (by decide +kernel)) (by decide +kernel), gTbl_of (List.mem_of_getElem? (i := 1111) (by decide +kernel)) (by decide +kernel), in_X8, wc_X8_order, by decide +kernel, by decide +kernel, by decide +kernel⟩
theorem wc_X8_does : Cond.code yX8_does cX8_does 7 (some .boolean) ∈ gTbl := gTbl_of (List.mem_of_getElem? (i := 1133) (by decide +kernel)) (by decide +kernel)
theorem pk_X8_does : MPI yX8_does cX8_does 7 (some .boolean) 1 := ⟨gTbl_of (List.mem_of_getElem? (i := 1132) (by decide +kernel)) (by decide +kernel), gTbl_of (List.mem_of_getElem? (i := 50) (by decide +kernel)) (by decide +kernel), in_X8, wc_X8_does, by decide +kernel, by decide +kernel, by decide +kernel⟩
theorem wc_X8_longPower : Cond.code yX8_longPower cX8_longPower 6 (some .long) ∈ gTbl := gTbl_of (List.mem_of_getElem? (i := 1129) (by decide +kernel)) (by decide +kernel)
theorem pk_X8_longPower : MPS yX8_longPower cX8_longPower 6 (some .long) 2 := ⟨gTbl_of (List.mem_of_getElem? (i := 1128) (by decide +kernel)) (by decide +kernel), in_X8, wc_X8_longPower, by decide +kernel, by decide +kernel, by decide +kernel⟩
theorem wc_X8_judge : Cond.code yX8_judge cX8_judge 5 (some .int) ∈ gTbl := gTbl_of (List.mem_of_getElem? (i := 1125) (by decide +kernel)) (by decide +kernel)
theorem pk_X8_judge : MPI yX8_judge cX8_judge 5 (some .int) 2 := ⟨gTbl_of (List.mem_of_getElem? (i := 1123) (by decide +kernel)) (by decide +kernel), gTbl_of (List.mem_of_getElem? (i := 1124) (by decide +kernel)) (by decide +kernel), in_X8, wc_X8_judge, by decide +kernel, by decide +kernel, by decide +kernel⟩
theorem wc_X8_see : Cond.code yX8_see cX8_see 4 (some .int) ∈ gTbl := gTbl_of (List.mem_of_getElem? (i := 1137) (by decide +kernel)) (by decide +kernel)
theorem pk_X8_see : MPI yX8_see cX8_see 4 (some .int) 3 := ⟨gTbl_of (List.mem_of_getElem? (i := 1135) (by decide +kernel)) (by decide +kernel), gTbl_of (List.mem_of_getElem? (i := 1136) (by decide +kernel)) (by decide +kernel), in_X8, wc_X8_see, by decide +kernel, by decide +kernel, by decide +kernel⟩
theorem wc_X8_unsee : Cond.code yX8_unsee cX8_unsee 2 (some .int) ∈ gTbl := gTbl_of (List.mem_of_getElem? (i := 1142) (by decide +kernel)) (by decide +kernel)
theorem pk_X8_unsee : MPI yX8_unsee cX8_unsee 2 (some .int) 0 := ⟨gTbl_of (List.mem_of_getElem? (i := 1140) (by decide +kernel)) (by decide +kernel), gTbl_of (List.mem_of_getElem? (i := 1141) (by decide +kernel)) (by decide +kernel), in_X8, wc_X8_unsee, by decide +kernel, by decide +kernel, by decide +kernel⟩
theorem wc_X8_isSo : Cond.code yX8_isSo cX8_isSo 5 (some .boolean) ∈ gTbl := gTbl_of (List.mem_of_getElem? (i := 1150) (by decide +kernel)) (by decide +kernel)
theorem pk_X8_isSo : MPI yX8_isSo cX8_isSo 5 (some .boolean) 2 := ⟨gTbl_of (List.mem_of_getElem? (i := 1149) (by decide +kernel)) (by decide +kernel), gTbl_of (List.mem_of_getElem? (i := 51) (by decide +kernel)) (by decide +kernel), in_X8, wc_X8_isSo, by decide +kernel, by decide +kernel, by decide +kernel⟩
theorem wc_X8_which : Cond.code yX8_which cX8_which 5 (some .int) ∈ gTbl := gTbl_of (List.mem_of_getElem? (i := 1146) (by decide +kernel)) (by decide +kernel)
theorem pk_X8_which : MPI yX8_which cX8_which 5 (some .int) 0 := ⟨gTbl_of (List.mem_of_getElem? (i := 1144) (by decide +kernel)) (by decide +kernel), gTbl_of (List.mem_of_getElem? (i := 1145) (by decide +kernel)) (by decide +kernel), in_X8, wc_X8_which, by decide +kernel, by decide +kernel, by decide +kernel⟩
theorem wc_X8_divisor : Cond.code yX8_divisor cX8_divisor 5 (some .int) ∈ gTbl := gTbl_of (List.mem_of_getElem? (i := 1167) (by decide +kernel)) (by decide +kernel)
theorem pk_X8_divisor : MPS yX8_divisor cX8_divisor 5 (some .int) 2 := ⟨gTbl_of (List.mem_of_getElem? (i := 1166) (by decide +kernel)) (by decide +kernel), in_X8, wc_X8_divisor, by decide +kernel, by decide +kernel, by decide +kernel⟩
theorem wc_X8_fraction : Cond.code yX8_fraction cX8_fraction 4 (some .int) ∈ gTbl := gTbl_of (List.mem_of_getElem? (i := 1164) (by decide +kernel)) (by decide +kernel)
theorem pk_X8_fraction : MPS yX8_fraction cX8_fraction 4 (some .int) 3 := ⟨gTbl_of (List.mem_of_getElem? (i := 1163) (by decide +kernel)) (by decide +kernel), in_X8, wc_X8_fraction, by decide +kernel, by decide +kernel, by decide +kernel⟩
theorem wc_X8_factorial : Cond.code yX8_factorial cX8_factorial 3 (some .int) ∈ gTbl := gTbl_of (List.mem_of_getElem? (i := 1157) (by decide +kernel)) (by decide +kernel)
theorem pk_X8_factorial : MPS yX8_factorial cX8_factorial 3 (some .int) 1 := ⟨gTbl_of (List.mem_of_getElem? (i := 1156) (by decide +kernel)) (by decide +kernel), in_X8, wc_X8_factorial, by decide +kernel, by decide +kernel, by decide +kernel⟩
theorem wc_X8_hadBy : Cond.code yX8_hadBy cX8_hadBy 4 (some .int) ∈ gTbl := gTbl_of (List.mem_of_getElem? (i := 1161) (by decide +kernel)) (by decide +kernel)
theorem pk_X8_hadBy : MPI yX8_hadBy cX8_hadBy 4 (some .int) 1 := ⟨gTbl_of (List.mem_of_getElem? (i := 1160) (by decide +kernel)) (by decide +kernel), gTbl_of (List.mem_of_getElem? (i := 52) (by decide +kernel)) (by decide +kernel), in_X8, wc_X8_hadBy, by decide +kernel, by decide +kernel, by decide +kernel⟩
theorem wc_X8_share : Cond.code yX8_share cX8_share 6 (some .int) ∈ gTbl := gTbl_of (List.mem_of_getElem? (i := 1154) (by decide +kernel)) (by decide +kernel)
theorem pk_X8_share : MPI yX8_share cX8_share 6 (some .int) 2 := ⟨gTbl_of (List.mem_of_getElem? (i := 1152) (by decide +kernel)) (by decide +kernel), gTbl_of (List.mem_of_getElem? (i := 1153) (by decide +kernel)) (by decide +kernel), in_X8, wc_X8_share, by decide +kernel, by decide +kernel, by decide +kernel⟩
theorem wc_X8_isRight : Cond.code yX8_isRight cX8_isRight 7 (some .boolean) ∈ gTbl := gTbl_of (List.mem_of_getElem? (i := 1176) (by decide +kernel)) (by decide +kernel)
theorem pk_X8_isRight : MPI yX8_isRight cX8_isRight 7 (some .boolean) 3 := ⟨gTbl_of (List.mem_of_getElem? (i := 1175) (by decide +kernel)) (by decide +kernel), gTbl_of (List.mem_of_getElem? (i := 53) (by decide +kernel)) (by decide +kernel), in_X8, wc_X8_isRight, by decide +kernel, by decide +kernel, by decide +kernel⟩
theorem wc_X8_lost : Cond.code yX8_lost cX8_lost 7 (some .int) ∈ gTbl := gTbl_of (List.mem_of_getElem? (i := 1171) (by decide +kernel)) (by decide +kernel)
theorem pk_X8_lost : MPI yX8_lost cX8_lost 7 (some .int) 4 := ⟨gTbl_of (List.mem_of_getElem? (i := 1169) (by decide +kernel)) (by decide +kernel), gTbl_of (List.mem_of_getElem? (i := 1170) (by decide +kernel)) (by decide +kernel), in_X8, wc_X8_lost, by decide +kernel, by decide +kernel, by decide +kernel⟩
theorem wc_X8_seed : Cond.code yX8_seed cX8_seed 5 (some .long) ∈ gTbl := gTbl_of (List.mem_of_getElem? (i := 1180) (by decide +kernel)) (by decide +kernel)
theorem pk_X8_seed : MPI yX8_seed cX8_seed 5 (some .long) 1 := ⟨gTbl_of (List.mem_of_getElem? (i := 1178) (by decide +kernel)) (by decide +kernel), gTbl_of (List.mem_of_getElem? (i := 1179) (by decide +kernel)) (by decide +kernel), in_X8, wc_X8_seed, by decide +kernel, by decide +kernel, by decide +kernel⟩
theorem wc_X8_drawn : Cond.code yX8_drawn cX8_drawn 4 (some .int) ∈ gTbl := gTbl_of (List.mem_of_getElem? (i := 1184) (by decide +kernel)) (by decide +kernel)
theorem pk_X8_drawn : MPI yX8_drawn cX8_drawn 4 (some .int) 1 := ⟨gTbl_of (List.mem_of_getElem? (i := 1182) (by decide +kernel)) (by decide +kernel), gTbl_of (List.mem_of_getElem? (i := 1183) (by decide +kernel)) (by decide +kernel), in_X8, wc_X8_drawn, by decide +kernel, by decide +kernel, by decide +kernel⟩
theorem wc_X8_keep : Cond.code yX8_keep cX8_keep 3 (some .int) ∈ gTbl := gTbl_of (List.mem_of_getElem? (i := 1191) (by decide +kernel)) (by decide +kernel)
theorem pk_X8_keep : MPI yX8_keep cX8_keep 3 (some .int) 1 := ⟨gTbl_of (List.mem_of_getElem? (i := 1189) (by decide +kernel)) (by decide +kernel), gTbl_of (List.mem_of_getElem? (i := 1190) (by decide +kernel)) (by decide +kernel), in_X8, wc_X8_keep, by decide +kernel, by decide +kernel, by decide +kernel⟩
theorem wc_X8_again : Cond.code yX8_again cX8_again 3 (some .int) ∈ gTbl := gTbl_of (List.mem_of_getElem? (i := 1195) (by decide +kernel)) (by decide +kernel)
theorem pk_X8_again : MPI yX8_again cX8_again 3 (some .int) 1 := ⟨gTbl_of (List.mem_of_getElem? (i := 1193) (by decide +kernel)) (by decide +kernel), gTbl_of (List.mem_of_getElem? (i := 1194) (by decide +kernel)) (by decide +kernel), in_X8, wc_X8_again, by decide +kernel, by decide +kernel, by decide +kernel⟩
theorem wc_X8_onShelves : Cond.code yX8_onShelves cX8_onShelves 3 (some .int) ∈ gTbl := gTbl_of (List.mem_of_getElem? (i := 1203) (by decide +kernel)) (by decide +kernel)
theorem pk_X8_onShelves : MPI yX8_onShelves cX8_onShelves 3 (some .int) 0 := ⟨gTbl_of (List.mem_of_getElem? (i := 1202) (by decide +kernel)) (by decide +kernel), gTbl_of (List.mem_of_getElem? (i := 54) (by decide +kernel)) (by decide +kernel), in_X8, wc_X8_onShelves, by decide +kernel, by decide +kernel, by decide +kernel⟩
theorem wc_X8_count : Cond.code yX8_count cX8_count 2 (some .int) ∈ gTbl := gTbl_of (List.mem_of_getElem? (i := 1199) (by decide +kernel)) (by decide +kernel)
theorem pk_X8_count : MPI yX8_count cX8_count 2 (some .int) 1 := ⟨gTbl_of (List.mem_of_getElem? (i := 1197) (by decide +kernel)) (by decide +kernel), gTbl_of (List.mem_of_getElem? (i := 1198) (by decide +kernel)) (by decide +kernel), in_X8, wc_X8_count, by decide +kernel, by decide +kernel, by decide +kernel⟩
theorem wc_Jxf58ca_isNaN_12338 : Cond.code yJxf58ca_isNaN_12338 cJxf58ca_isNaN_12338 1 (some .boolean) ∈ gTbl := gTbl_of (List.mem_of_getElem? (i := 1081) (by decide +kernel)) (by decide +kernel)
theorem pk_Jxf58ca_isNaN_12338 : MPS yJxf58ca_isNaN_12338 cJxf58ca_isNaN_12338 1 (some .boolean) 1 := ⟨gTbl_of (List.mem_of_getElem? (i := 1080) (by decide +kernel)) (by decide +kernel), in_Jxf58ca, wc_Jxf58ca_isNaN_12338, by decide +kernel, by decide +kernel, by decide +kernel⟩
theorem wc_Jxf58ca_floatToIntBits_5c35a : Cond.code yJxf58ca_floatToIntBits_5c35a cJxf58ca_floatToIntBits_5c35a 1 (some .int) ∈ gTbl := gTbl_of (List.mem_of_getElem? (i := 1078) (by decide +kernel)) (by decide +kernel)
theorem pk_Jxf58ca_floatToIntBits_5c35a : MPS yJxf58ca_floatToIntBits_5c35a cJxf58ca_floatToIntBits_5c35a 1 (some .int) 1 := ⟨gTbl_of (List.mem_of_getElem? (i := 1077) (by decide +kernel)) (by decide +kernel), in_Jxf58ca, wc_Jxf58ca_floatToIntBits_5c35a, by decide +kernel, by decide +kernel, by decide +kernel⟩
theorem wc_J6_bitCount_0f7a4 : Cond.code yJ6_bitCount_0f7a4 cJ6_bitCount_0f7a4 1 (some .int) ∈ gTbl := gTbl_of (List.mem_of_getElem? (i := 501) (by decide +kernel)) (by decide +kernel)
theorem pk_J6_bitCount_0f7a4 : MPS yJ6_bitCount_0f7a4 cJ6_bitCount_0f7a4 1 (some .int) 1 := ⟨gTbl_of (List.mem_of_getElem? (i := 500) (by decide +kernel)) (by decide +kernel), in_J6, wc_J6_bitCount_0f7a4, by decide +kernel, by decide +kernel, by decide +kernel⟩
theorem wc_J9_min_7cf53 : Cond.code yJ9_min_7cf53 cJ9_min_7cf53 2 (some .int) ∈ gTbl := gTbl_of (List.mem_of_getElem? (i := 545) (by decide +kernel)) (by decide +kernel)
theorem pk_J9_min_7cf53 : MPS yJ9_min_7cf53 cJ9_min_7cf53 2 (some .int) 2 := ⟨gTbl_of (List.mem_of_getElem? (i := 544) (by decide +kernel)) (by decide +kernel), in_J9, wc_J9_min_7cf53, by decide +kernel, by decide +kernel, by decide +kernel⟩
theorem st_floatToRawIntBits : Cond.static ⟨"java/lang/Float", "floatToRawIntBits", "(F)I"⟩ ∈ gTbl := gTbl_of (List.mem_of_getElem? (i := 1083) (by decide +kernel)) (by decide +kernel)
theorem oi_inst : Cond.instanceMethod objectInit ∈ gTbl := gTbl_of (List.mem_of_getElem? (i := 74) (by decide +kernel)) (by decide +kernel)
theorem oi_code : Cond.code objectInit ⟨#[0xb1]⟩ 1 none ∈ gTbl := gTbl_of (List.mem_of_getElem? (i := 75) (by decide +kernel)) (by decide +kernel)
theorem cp_0 : CPk 0 RX0 TX0 6 tyX0 := ⟨rfl, fun w h => gTbl_of ((show ∀ w ∈ u_ws RX0 TX0 6, w ∈ lw_tbl by decide +kernel) w h) ((show ∀ w ∈ u_ws RX0 TX0 6, goodWord w = true by decide +kernel) w h), tyX0_ok, nmX0⟩
theorem iw_0 : ∀ w ∈ wsX00, w ∈ gTbl := cp_0.2.1
theorem cp_1 : CPk 1 RX1 TX1 7 tyX1 := ⟨rfl, fun w h => gTbl_of ((show ∀ w ∈ u_ws RX1 TX1 7, w ∈ lw_tbl by decide +kernel) w h) ((show ∀ w ∈ u_ws RX1 TX1 7, goodWord w = true by decide +kernel) w h), tyX1_ok, nmX1⟩
theorem iw_1 : ∀ w ∈ wsX10, w ∈ gTbl := cp_1.2.1
theorem cp_2 : CPk 2 RX2 TX2 2 tyX2 := ⟨rfl, fun w h => gTbl_of ((show ∀ w ∈ u_ws RX2 TX2 2, w ∈ lw_tbl by decide +kernel) w h) ((show ∀ w ∈ u_ws RX2 TX2 2, goodWord w = true by decide +kernel) w h), tyX2_ok, nmX2⟩
theorem iw_2 : ∀ w ∈ wsX20, w ∈ gTbl := cp_2.2.1
theorem cp_3 : CPk 3 RX3 TX3 3 tyX3 := ⟨rfl, fun w h => gTbl_of ((show ∀ w ∈ u_ws RX3 TX3 3, w ∈ lw_tbl by decide +kernel) w h) ((show ∀ w ∈ u_ws RX3 TX3 3, goodWord w = true by decide +kernel) w h), tyX3_ok, nmX3⟩
theorem iw_3 : ∀ w ∈ wsX30, w ∈ gTbl := cp_3.2.1
theorem cp_4 : CPk 4 RX4 TX4 7 tyX4 := ⟨rfl, fun w h => gTbl_of ((show ∀ w ∈ u_ws RX4 TX4 7, w ∈ lw_tbl by decide +kernel) w h) ((show ∀ w ∈ u_ws RX4 TX4 7, goodWord w = true by decide +kernel) w h), tyX4_ok, nmX4⟩
theorem iw_4 : ∀ w ∈ wsX40, w ∈ gTbl := cp_4.2.1
theorem cp_5 : CPk 5 RX5 TX5 4 tyX5 := ⟨rfl, fun w h => gTbl_of ((show ∀ w ∈ u_ws RX5 TX5 4, w ∈ lw_tbl by decide +kernel) w h) ((show ∀ w ∈ u_ws RX5 TX5 4, goodWord w = true by decide +kernel) w h), tyX5_ok, nmX5⟩
theorem iw_5 : ∀ w ∈ wsX50, w ∈ gTbl := cp_5.2.1
theorem cp_6 : CPk 6 RX6 TX6 5 tyX6 := ⟨rfl, fun w h => gTbl_of ((show ∀ w ∈ u_ws RX6 TX6 5, w ∈ lw_tbl by decide +kernel) w h) ((show ∀ w ∈ u_ws RX6 TX6 5, goodWord w = true by decide +kernel) w h), tyX6_ok, nmX6⟩
theorem iw_6 : ∀ w ∈ wsX60, w ∈ gTbl := cp_6.2.1
theorem cp_7 : CPk 7 RX7 TX7 10 tyX7 := ⟨rfl, fun w h => gTbl_of ((show ∀ w ∈ u_ws RX7 TX7 10, w ∈ lw_tbl by decide +kernel) w h) ((show ∀ w ∈ u_ws RX7 TX7 10, goodWord w = true by decide +kernel) w h), tyX7_ok, nmX7⟩
theorem iw_7 : ∀ w ∈ wsX70, w ∈ gTbl := cp_7.2.1
theorem cp_8 : CPk 8 RX8 TX8 33 tyX8 := ⟨rfl, fun w h => gTbl_of ((show ∀ w ∈ u_ws RX8 TX8 33, w ∈ lw_tbl by decide +kernel) w h) ((show ∀ w ∈ u_ws RX8 TX8 33, goodWord w = true by decide +kernel) w h), tyX8_ok, nmX8⟩
theorem iw_8 : ∀ w ∈ wsX80, w ∈ gTbl := cp_8.2.1
end
section
theorem dX0_init_0 : decode cX0_init 0 = .ok (.aload_n 0, 1) := by decide +kernel
theorem dX0_init_1 : decode cX0_init 1 = .ok (.invokespecial 3, 3) := by decide +kernel
theorem dX0_init_4 : decode cX0_init 4 = .ok (.aload_n 0, 1) := by decide +kernel
theorem dX0_init_5 : decode cX0_init 5 = .ok (.iconst 0, 1) := by decide +kernel
theorem dX0_init_6 : decode cX0_init 6 = .ok (.putfield 9, 3) := by decide +kernel
theorem dX0_init_9 : decode cX0_init 9 = .ok (.aload_n 0, 1) := by decide +kernel
theorem dX0_init_10 : decode cX0_init 10 = .ok (.iconst 0, 1) := by decide +kernel
theorem dX0_init_11 : decode cX0_init 11 = .ok (.putfield 15, 3) := by decide +kernel
theorem dX0_init_14 : decode cX0_init 14 = .ok (.aload_n 0, 1) := by decide +kernel
theorem dX0_init_15 : decode cX0_init 15 = .ok (.iconst 0, 1) := by decide +kernel
theorem dX0_init_16 : decode cX0_init 16 = .ok (.putfield 18, 3) := by decide +kernel
theorem dX0_init_19 : decode cX0_init 19 = .ok (.aload_n 0, 1) := by decide +kernel
theorem dX0_init_20 : decode cX0_init 20 = .ok (.iconst 0, 1) := by decide +kernel
theorem dX0_init_21 : decode cX0_init 21 = .ok (.putfield 21, 3) := by decide +kernel
theorem dX0_init_24 : decode cX0_init 24 = .ok (.aload_n 0, 1) := by decide +kernel
theorem dX0_init_25 : decode cX0_init 25 = .ok (.iconst 3, 1) := by decide +kernel
theorem dX0_init_26 : decode cX0_init 26 = .ok (.newarray .int, 2) := by decide +kernel
theorem dX0_init_28 : decode cX0_init 28 = .ok (.putfield 24, 3) := by decide +kernel
theorem dX0_init_31 : decode cX0_init 31 = .ok (.aload_n 0, 1) := by decide +kernel
theorem dX0_init_32 : decode cX0_init 32 = .ok (.iconst 3, 1) := by decide +kernel
theorem dX0_init_33 : decode cX0_init 33 = .ok (.newarray .int, 2) := by decide +kernel
theorem dX0_init_35 : decode cX0_init 35 = .ok (.putfield 28, 3) := by decide +kernel
theorem dX0_init_38 : decode cX0_init 38 = .ok (.return_, 1) := by decide +kernel
theorem dX0_take_0 : decode cX0_take 0 = .ok (.aload_n 0, 1) := by decide +kernel
theorem dX0_take_1 : decode cX0_take 1 = .ok (.aload_n 1, 1) := by decide +kernel
theorem dX0_take_2 : decode cX0_take 2 = .ok (.getfield 9, 3) := by decide +kernel
theorem dX0_take_5 : decode cX0_take 5 = .ok (.putfield 9, 3) := by decide +kernel
theorem dX0_take_8 : decode cX0_take 8 = .ok (.aload_n 0, 1) := by decide +kernel
theorem dX0_take_9 : decode cX0_take 9 = .ok (.aload_n 1, 1) := by decide +kernel
theorem dX0_take_10 : decode cX0_take 10 = .ok (.getfield 15, 3) := by decide +kernel
theorem dX0_take_13 : decode cX0_take 13 = .ok (.putfield 15, 3) := by decide +kernel
theorem dX0_take_16 : decode cX0_take 16 = .ok (.aload_n 0, 1) := by decide +kernel
theorem dX0_take_17 : decode cX0_take 17 = .ok (.aload_n 1, 1) := by decide +kernel
theorem dX0_take_18 : decode cX0_take 18 = .ok (.getfield 18, 3) := by decide +kernel
theorem dX0_take_21 : decode cX0_take 21 = .ok (.putfield 18, 3) := by decide +kernel
theorem dX0_take_24 : decode cX0_take 24 = .ok (.aload_n 0, 1) := by decide +kernel
theorem dX0_take_25 : decode cX0_take 25 = .ok (.aload_n 1, 1) := by decide +kernel
theorem dX0_take_26 : decode cX0_take 26 = .ok (.getfield 21, 3) := by decide +kernel
theorem dX0_take_29 : decode cX0_take 29 = .ok (.putfield 21, 3) := by decide +kernel
theorem dX0_take_32 : decode cX0_take 32 = .ok (.aload_n 1, 1) := by decide +kernel
theorem dX0_take_33 : decode cX0_take 33 = .ok (.getfield 24, 3) := by decide +kernel
theorem dX0_take_36 : decode cX0_take 36 = .ok (.aload_n 0, 1) := by decide +kernel
theorem dX0_take_37 : decode cX0_take 37 = .ok (.getfield 24, 3) := by decide +kernel
theorem dX0_take_40 : decode cX0_take 40 = .ok (.invokestatic 31, 3) := by decide +kernel
theorem dX0_take_43 : decode cX0_take 43 = .ok (.aload_n 1, 1) := by decide +kernel
theorem dX0_take_44 : decode cX0_take 44 = .ok (.getfield 28, 3) := by decide +kernel
theorem dX0_take_47 : decode cX0_take 47 = .ok (.aload_n 0, 1) := by decide +kernel
theorem dX0_take_48 : decode cX0_take 48 = .ok (.getfield 28, 3) := by decide +kernel
theorem dX0_take_51 : decode cX0_take 51 = .ok (.invokestatic 31, 3) := by decide +kernel
theorem dX0_take_54 : decode cX0_take 54 = .ok (.return_, 1) := by decide +kernel
theorem dX0_begin_0 : decode cX0_begin 0 = .ok (.aload_n 0, 1) := by decide +kernel
theorem dX0_begin_1 : decode cX0_begin 1 = .ok (.iload_n 1, 1) := by decide +kernel
theorem dX0_begin_2 : decode cX0_begin 2 = .ok (.putfield 9, 3) := by decide +kernel
theorem dX0_begin_5 : decode cX0_begin 5 = .ok (.aload_n 0, 1) := by decide +kernel
theorem dX0_begin_6 : decode cX0_begin 6 = .ok (.iload_n 2, 1) := by decide +kernel
theorem dX0_begin_7 : decode cX0_begin 7 = .ok (.putfield 15, 3) := by decide +kernel
theorem dX0_begin_10 : decode cX0_begin 10 = .ok (.aload_n 0, 1) := by decide +kernel
theorem dX0_begin_11 : decode cX0_begin 11 = .ok (.iconst 0, 1) := by decide +kernel
theorem dX0_begin_12 : decode cX0_begin 12 = .ok (.putfield 18, 3) := by decide +kernel
theorem dX0_begin_15 : decode cX0_begin 15 = .ok (.aload_n 0, 1) := by decide +kernel
theorem dX0_begin_16 : decode cX0_begin 16 = .ok (.iconst 0, 1) := by decide +kernel
theorem dX0_begin_17 : decode cX0_begin 17 = .ok (.putfield 21, 3) := by decide +kernel
theorem dX0_begin_20 : decode cX0_begin 20 = .ok (.return_, 1) := by decide +kernel
theorem dX0_addFamily_0 : decode cX0_addFamily 0 = .ok (.aload_n 0, 1) := by decide +kernel
theorem dX0_addFamily_1 : decode cX0_addFamily 1 = .ok (.getfield 18, 3) := by decide +kernel
theorem dX0_addFamily_4 : decode cX0_addFamily 4 = .ok (.ifCond .lt 57, 3) := by decide +kernel
theorem dX0_addFamily_7 : decode cX0_addFamily 7 = .ok (.aload_n 0, 1) := by decide +kernel
theorem dX0_addFamily_8 : decode cX0_addFamily 8 = .ok (.getfield 18, 3) := by decide +kernel
theorem dX0_addFamily_11 : decode cX0_addFamily 11 = .ok (.aload_n 0, 1) := by decide +kernel
theorem dX0_addFamily_12 : decode cX0_addFamily 12 = .ok (.getfield 24, 3) := by decide +kernel
theorem dX0_addFamily_15 : decode cX0_addFamily 15 = .ok (.arraylength, 1) := by decide +kernel
theorem dX0_addFamily_16 : decode cX0_addFamily 16 = .ok (.if_icmp .ge 45, 3) := by decide +kernel
theorem dX0_addFamily_19 : decode cX0_addFamily 19 = .ok (.aload_n 0, 1) := by decide +kernel
theorem dX0_addFamily_20 : decode cX0_addFamily 20 = .ok (.getfield 18, 3) := by decide +kernel
theorem dX0_addFamily_23 : decode cX0_addFamily 23 = .ok (.aload_n 0, 1) := by decide +kernel
theorem dX0_addFamily_24 : decode cX0_addFamily 24 = .ok (.getfield 28, 3) := by decide +kernel
theorem dX0_addFamily_27 : decode cX0_addFamily 27 = .ok (.arraylength, 1) := by decide +kernel
theorem dX0_addFamily_28 : decode cX0_addFamily 28 = .ok (.if_icmp .ge 33, 3) := by decide +kernel
theorem dX0_addFamily_31 : decode cX0_addFamily 31 = .ok (.aload_n 0, 1) := by decide +kernel
theorem dX0_addFamily_32 : decode cX0_addFamily 32 = .ok (.getfield 24, 3) := by decide +kernel
theorem dX0_addFamily_35 : decode cX0_addFamily 35 = .ok (.aload_n 0, 1) := by decide +kernel
theorem dX0_addFamily_36 : decode cX0_addFamily 36 = .ok (.getfield 18, 3) := by decide +kernel
theorem dX0_addFamily_39 : decode cX0_addFamily 39 = .ok (.iload_n 1, 1) := by decide +kernel
theorem dX0_addFamily_40 : decode cX0_addFamily 40 = .ok (.iastore, 1) := by decide +kernel
theorem dX0_addFamily_41 : decode cX0_addFamily 41 = .ok (.aload_n 0, 1) := by decide +kernel
theorem dX0_addFamily_42 : decode cX0_addFamily 42 = .ok (.getfield 28, 3) := by decide +kernel
theorem dX0_addFamily_45 : decode cX0_addFamily 45 = .ok (.aload_n 0, 1) := by decide +kernel
theorem dX0_addFamily_46 : decode cX0_addFamily 46 = .ok (.getfield 18, 3) := by decide +kernel
theorem dX0_addFamily_49 : decode cX0_addFamily 49 = .ok (.iload_n 2, 1) := by decide +kernel
theorem dX0_addFamily_50 : decode cX0_addFamily 50 = .ok (.iastore, 1) := by decide +kernel
theorem dX0_addFamily_51 : decode cX0_addFamily 51 = .ok (.aload_n 0, 1) := by decide +kernel
theorem dX0_addFamily_52 : decode cX0_addFamily 52 = .ok (.dup, 1) := by decide +kernel
theorem dX0_addFamily_53 : decode cX0_addFamily 53 = .ok (.getfield 18, 3) := by decide +kernel
theorem dX0_addFamily_56 : decode cX0_addFamily 56 = .ok (.iconst 1, 1) := by decide +kernel
theorem dX0_addFamily_57 : decode cX0_addFamily 57 = .ok (.iadd, 1) := by decide +kernel
theorem dX0_addFamily_58 : decode cX0_addFamily 58 = .ok (.putfield 18, 3) := by decide +kernel
theorem dX0_addFamily_61 : decode cX0_addFamily 61 = .ok (.return_, 1) := by decide +kernel
theorem dX0_isFamily_0 : decode cX0_isFamily 0 = .ok (.iload_n 1, 1) := by decide +kernel
theorem dX0_isFamily_1 : decode cX0_isFamily 1 = .ok (.ifCond .lt 15, 3) := by decide +kernel
theorem dX0_isFamily_4 : decode cX0_isFamily 4 = .ok (.iload_n 1, 1) := by decide +kernel
theorem dX0_isFamily_5 : decode cX0_isFamily 5 = .ok (.aload_n 0, 1) := by decide +kernel
theorem dX0_isFamily_6 : decode cX0_isFamily 6 = .ok (.getfield 18, 3) := by decide +kernel
theorem dX0_isFamily_9 : decode cX0_isFamily 9 = .ok (.if_icmp .ge 7, 3) := by decide +kernel
theorem dX0_isFamily_12 : decode cX0_isFamily 12 = .ok (.iconst 1, 1) := by decide +kernel
theorem dX0_isFamily_13 : decode cX0_isFamily 13 = .ok (.goto 4, 3) := by decide +kernel
theorem dX0_isFamily_16 : decode cX0_isFamily 16 = .ok (.iconst 0, 1) := by decide +kernel
theorem dX0_isFamily_17 : decode cX0_isFamily 17 = .ok (.ireturn, 1) := by decide +kernel
theorem dX0_cell_0 : decode cX0_cell 0 = .ok (.aload_n 0, 1) := by decide +kernel
theorem dX0_cell_1 : decode cX0_cell 1 = .ok (.getfield 9, 3) := by decide +kernel
theorem dX0_cell_4 : decode cX0_cell 4 = .ok (.ifCond .le 25, 3) := by decide +kernel
theorem dX0_cell_7 : decode cX0_cell 7 = .ok (.iload_n 1, 1) := by decide +kernel
theorem dX0_cell_8 : decode cX0_cell 8 = .ok (.ifCond .lt 21, 3) := by decide +kernel
theorem dX0_cell_11 : decode cX0_cell 11 = .ok (.iload_n 1, 1) := by decide +kernel
theorem dX0_cell_12 : decode cX0_cell 12 = .ok (.aload_n 0, 1) := by decide +kernel
theorem dX0_cell_13 : decode cX0_cell 13 = .ok (.getfield 24, 3) := by decide +kernel
theorem dX0_cell_16 : decode cX0_cell 16 = .ok (.arraylength, 1) := by decide +kernel
theorem dX0_cell_17 : decode cX0_cell 17 = .ok (.if_icmp .ge 12, 3) := by decide +kernel
theorem dX0_cell_20 : decode cX0_cell 20 = .ok (.iload_n 1, 1) := by decide +kernel
theorem dX0_cell_21 : decode cX0_cell 21 = .ok (.aload_n 0, 1) := by decide +kernel
theorem dX0_cell_22 : decode cX0_cell 22 = .ok (.getfield 28, 3) := by decide +kernel
theorem dX0_cell_25 : decode cX0_cell 25 = .ok (.arraylength, 1) := by decide +kernel
theorem dX0_cell_26 : decode cX0_cell 26 = .ok (.if_icmp .lt 5, 3) := by decide +kernel
theorem dX0_cell_29 : decode cX0_cell 29 = .ok (.iconst 0, 1) := by decide +kernel
theorem dX0_cell_30 : decode cX0_cell 30 = .ok (.ireturn, 1) := by decide +kernel
theorem dX0_cell_31 : decode cX0_cell 31 = .ok (.aload_n 0, 1) := by decide +kernel
theorem dX0_cell_32 : decode cX0_cell 32 = .ok (.getfield 24, 3) := by decide +kernel
theorem dX0_cell_35 : decode cX0_cell 35 = .ok (.iload_n 1, 1) := by decide +kernel
theorem dX0_cell_36 : decode cX0_cell 36 = .ok (.iaload, 1) := by decide +kernel
theorem dX0_cell_37 : decode cX0_cell 37 = .ok (.iload_n 2, 1) := by decide +kernel
theorem dX0_cell_38 : decode cX0_cell 38 = .ok (.imul, 1) := by decide +kernel
theorem dX0_cell_39 : decode cX0_cell 39 = .ok (.aload_n 0, 1) := by decide +kernel
theorem dX0_cell_40 : decode cX0_cell 40 = .ok (.getfield 28, 3) := by decide +kernel
theorem dX0_cell_43 : decode cX0_cell 43 = .ok (.iload_n 1, 1) := by decide +kernel
theorem dX0_cell_44 : decode cX0_cell 44 = .ok (.iaload, 1) := by decide +kernel
theorem dX0_cell_45 : decode cX0_cell 45 = .ok (.iload_n 3, 1) := by decide +kernel
theorem dX0_cell_46 : decode cX0_cell 46 = .ok (.iconst 1, 1) := by decide +kernel
theorem dX0_cell_47 : decode cX0_cell 47 = .ok (.iadd, 1) := by decide +kernel
theorem dX0_cell_48 : decode cX0_cell 48 = .ok (.imul, 1) := by decide +kernel
theorem dX0_cell_49 : decode cX0_cell 49 = .ok (.iload_n 3, 1) := by decide +kernel
theorem dX0_cell_50 : decode cX0_cell 50 = .ok (.iconst 1, 1) := by decide +kernel
theorem dX0_cell_51 : decode cX0_cell 51 = .ok (.iadd, 1) := by decide +kernel
theorem dX0_cell_52 : decode cX0_cell 52 = .ok (.imul, 1) := by decide +kernel
theorem dX0_cell_53 : decode cX0_cell 53 = .ok (.iadd, 1) := by decide +kernel
theorem dX0_cell_54 : decode cX0_cell 54 = .ok (.bipush 37, 2) := by decide +kernel
theorem dX0_cell_56 : decode cX0_cell 56 = .ok (.irem, 1) := by decide +kernel
theorem dX0_cell_57 : decode cX0_cell 57 = .ok (.aload_n 0, 1) := by decide +kernel
theorem dX0_cell_58 : decode cX0_cell 58 = .ok (.getfield 9, 3) := by decide +kernel
theorem dX0_cell_61 : decode cX0_cell 61 = .ok (.irem, 1) := by decide +kernel
theorem dX0_cell_62 : decode cX0_cell 62 = .ok (.ireturn, 1) := by decide +kernel
theorem dX0_cellSet_0 : decode cX0_cellSet 0 = .ok (.iconst 0, 1) := by decide +kernel
theorem dX0_cellSet_1 : decode cX0_cellSet 1 = .ok (.istore_n 3, 1) := by decide +kernel
theorem dX0_cellSet_2 : decode cX0_cellSet 2 = .ok (.iconst 0, 1) := by decide +kernel
theorem dX0_cellSet_3 : decode cX0_cellSet 3 = .ok (.istore 4, 2) := by decide +kernel
theorem dX0_cellSet_5 : decode cX0_cellSet 5 = .ok (.iload 4, 2) := by decide +kernel
theorem dX0_cellSet_7 : decode cX0_cellSet 7 = .ok (.aload_n 0, 1) := by decide +kernel
theorem dX0_cellSet_8 : decode cX0_cellSet 8 = .ok (.getfield 15, 3) := by decide +kernel
theorem dX0_cellSet_11 : decode cX0_cellSet 11 = .ok (.if_icmp .ge 22, 3) := by decide +kernel
theorem dX0_cellSet_14 : decode cX0_cellSet 14 = .ok (.iload_n 3, 1) := by decide +kernel
theorem dX0_cellSet_15 : decode cX0_cellSet 15 = .ok (.iconst 1, 1) := by decide +kernel
theorem dX0_cellSet_16 : decode cX0_cellSet 16 = .ok (.aload_n 0, 1) := by decide +kernel
theorem dX0_cellSet_17 : decode cX0_cellSet 17 = .ok (.iload_n 1, 1) := by decide +kernel
theorem dX0_cellSet_18 : decode cX0_cellSet 18 = .ok (.iload_n 2, 1) := by decide +kernel
theorem dX0_cellSet_19 : decode cX0_cellSet 19 = .ok (.iload 4, 2) := by decide +kernel
theorem dX0_cellSet_21 : decode cX0_cellSet 21 = .ok (.invokevirtual 35, 3) := by decide +kernel
theorem dX0_cellSet_24 : decode cX0_cellSet 24 = .ok (.ishl, 1) := by decide +kernel
theorem dX0_cellSet_25 : decode cX0_cellSet 25 = .ok (.ior, 1) := by decide +kernel
theorem dX0_cellSet_26 : decode cX0_cellSet 26 = .ok (.istore_n 3, 1) := by decide +kernel
theorem dX0_cellSet_27 : decode cX0_cellSet 27 = .ok (.iinc 4 1, 3) := by decide +kernel
theorem dX0_cellSet_30 : decode cX0_cellSet 30 = .ok (.goto (-25), 3) := by decide +kernel
theorem dX0_cellSet_33 : decode cX0_cellSet 33 = .ok (.iload_n 3, 1) := by decide +kernel
theorem dX0_cellSet_34 : decode cX0_cellSet 34 = .ok (.ireturn, 1) := by decide +kernel
theorem dX0_contains_0 : decode cX0_contains 0 = .ok (.iconst 0, 1) := by decide +kernel
theorem dX0_contains_1 : decode cX0_contains 1 = .ok (.istore 4, 2) := by decide +kernel
theorem dX0_contains_3 : decode cX0_contains 3 = .ok (.iload 4, 2) := by decide +kernel
theorem dX0_contains_5 : decode cX0_contains 5 = .ok (.aload_n 0, 1) := by decide +kernel
theorem dX0_contains_6 : decode cX0_contains 6 = .ok (.getfield 15, 3) := by decide +kernel
theorem dX0_contains_9 : decode cX0_contains 9 = .ok (.if_icmp .ge 26, 3) := by decide +kernel
theorem dX0_contains_12 : decode cX0_contains 12 = .ok (.iload_n 1, 1) := by decide +kernel
theorem dX0_contains_13 : decode cX0_contains 13 = .ok (.aload_n 0, 1) := by decide +kernel
theorem dX0_contains_14 : decode cX0_contains 14 = .ok (.iload_n 2, 1) := by decide +kernel
theorem dX0_contains_15 : decode cX0_contains 15 = .ok (.iload_n 3, 1) := by decide +kernel
theorem dX0_contains_16 : decode cX0_contains 16 = .ok (.iload 4, 2) := by decide +kernel
theorem dX0_contains_18 : decode cX0_contains 18 = .ok (.invokevirtual 35, 3) := by decide +kernel
theorem dX0_contains_21 : decode cX0_contains 21 = .ok (.ishr, 1) := by decide +kernel
theorem dX0_contains_22 : decode cX0_contains 22 = .ok (.iconst 1, 1) := by decide +kernel
theorem dX0_contains_23 : decode cX0_contains 23 = .ok (.iand, 1) := by decide +kernel
theorem dX0_contains_24 : decode cX0_contains 24 = .ok (.ifCond .ne 5, 3) := by decide +kernel
theorem dX0_contains_27 : decode cX0_contains 27 = .ok (.iconst 0, 1) := by decide +kernel
theorem dX0_contains_28 : decode cX0_contains 28 = .ok (.ireturn, 1) := by decide +kernel
theorem dX0_contains_29 : decode cX0_contains 29 = .ok (.iinc 4 1, 3) := by decide +kernel
theorem dX0_contains_32 : decode cX0_contains 32 = .ok (.goto (-29), 3) := by decide +kernel
theorem dX0_contains_35 : decode cX0_contains 35 = .ok (.iconst 1, 1) := by decide +kernel
theorem dX0_contains_36 : decode cX0_contains 36 = .ok (.ireturn, 1) := by decide +kernel
theorem dX0_pagesIn_0 : decode cX0_pagesIn 0 = .ok (.iconst 0, 1) := by decide +kernel
theorem dX0_pagesIn_1 : decode cX0_pagesIn 1 = .ok (.istore_n 3, 1) := by decide +kernel
theorem dX0_pagesIn_2 : decode cX0_pagesIn 2 = .ok (.iconst 0, 1) := by decide +kernel
theorem dX0_pagesIn_3 : decode cX0_pagesIn 3 = .ok (.istore 4, 2) := by decide +kernel
theorem dX0_pagesIn_5 : decode cX0_pagesIn 5 = .ok (.iload 4, 2) := by decide +kernel
theorem dX0_pagesIn_7 : decode cX0_pagesIn 7 = .ok (.bipush 32, 2) := by decide +kernel
theorem dX0_pagesIn_9 : decode cX0_pagesIn 9 = .ok (.if_icmp .ge 27, 3) := by decide +kernel
theorem dX0_pagesIn_12 : decode cX0_pagesIn 12 = .ok (.aload_n 0, 1) := by decide +kernel
theorem dX0_pagesIn_13 : decode cX0_pagesIn 13 = .ok (.iload_n 1, 1) := by decide +kernel
theorem dX0_pagesIn_14 : decode cX0_pagesIn 14 = .ok (.iload_n 2, 1) := by decide +kernel
theorem dX0_pagesIn_15 : decode cX0_pagesIn 15 = .ok (.iload 4, 2) := by decide +kernel
theorem dX0_pagesIn_17 : decode cX0_pagesIn 17 = .ok (.invokevirtual 39, 3) := by decide +kernel
theorem dX0_pagesIn_20 : decode cX0_pagesIn 20 = .ok (.ifCond .eq 10, 3) := by decide +kernel
theorem dX0_pagesIn_23 : decode cX0_pagesIn 23 = .ok (.iload_n 3, 1) := by decide +kernel
theorem dX0_pagesIn_24 : decode cX0_pagesIn 24 = .ok (.iconst 1, 1) := by decide +kernel
theorem dX0_pagesIn_25 : decode cX0_pagesIn 25 = .ok (.iload 4, 2) := by decide +kernel
theorem dX0_pagesIn_27 : decode cX0_pagesIn 27 = .ok (.ishl, 1) := by decide +kernel
theorem dX0_pagesIn_28 : decode cX0_pagesIn 28 = .ok (.ior, 1) := by decide +kernel
theorem dX0_pagesIn_29 : decode cX0_pagesIn 29 = .ok (.istore_n 3, 1) := by decide +kernel
theorem dX0_pagesIn_30 : decode cX0_pagesIn 30 = .ok (.iinc 4 1, 3) := by decide +kernel
theorem dX0_pagesIn_33 : decode cX0_pagesIn 33 = .ok (.goto (-28), 3) := by decide +kernel
theorem dX0_pagesIn_36 : decode cX0_pagesIn 36 = .ok (.iload_n 3, 1) := by decide +kernel
theorem dX0_pagesIn_37 : decode cX0_pagesIn 37 = .ok (.ireturn, 1) := by decide +kernel
theorem dX1_init_0 : decode cX1_init 0 = .ok (.aload_n 0, 1) := by decide +kernel
theorem dX1_init_1 : decode cX1_init 1 = .ok (.invokespecial 3, 3) := by decide +kernel
theorem dX1_init_4 : decode cX1_init 4 = .ok (.aload_n 0, 1) := by decide +kernel
theorem dX1_init_5 : decode cX1_init 5 = .ok (.new 9, 3) := by decide +kernel
theorem dX1_init_8 : decode cX1_init 8 = .ok (.dup, 1) := by decide +kernel
theorem dX1_init_9 : decode cX1_init 9 = .ok (.invokespecial 11, 3) := by decide +kernel
theorem dX1_init_12 : decode cX1_init 12 = .ok (.putfield 12, 3) := by decide +kernel
theorem dX1_init_15 : decode cX1_init 15 = .ok (.aload_n 0, 1) := by decide +kernel
theorem dX1_init_16 : decode cX1_init 16 = .ok (.iconst 4, 1) := by decide +kernel
theorem dX1_init_17 : decode cX1_init 17 = .ok (.anewarray 18, 3) := by decide +kernel
theorem dX1_init_20 : decode cX1_init 20 = .ok (.putfield 20, 3) := by decide +kernel
theorem dX1_init_23 : decode cX1_init 23 = .ok (.aload_n 0, 1) := by decide +kernel
theorem dX1_init_24 : decode cX1_init 24 = .ok (.iconst 0, 1) := by decide +kernel
theorem dX1_init_25 : decode cX1_init 25 = .ok (.putfield 24, 3) := by decide +kernel
theorem dX1_init_28 : decode cX1_init 28 = .ok (.aload_n 0, 1) := by decide +kernel
theorem dX1_init_29 : decode cX1_init 29 = .ok (.iconst 0, 1) := by decide +kernel
theorem dX1_init_30 : decode cX1_init 30 = .ok (.putfield 28, 3) := by decide +kernel
theorem dX1_init_33 : decode cX1_init 33 = .ok (.aload_n 0, 1) := by decide +kernel
theorem dX1_init_34 : decode cX1_init 34 = .ok (.iconst 0, 1) := by decide +kernel
theorem dX1_init_35 : decode cX1_init 35 = .ok (.putfield 31, 3) := by decide +kernel
theorem dX1_init_38 : decode cX1_init 38 = .ok (.aload_n 0, 1) := by decide +kernel
theorem dX1_init_39 : decode cX1_init 39 = .ok (.iconst 0, 1) := by decide +kernel
theorem dX1_init_40 : decode cX1_init 40 = .ok (.putfield 34, 3) := by decide +kernel
theorem dX1_init_43 : decode cX1_init 43 = .ok (.aload_n 0, 1) := by decide +kernel
theorem dX1_init_44 : decode cX1_init 44 = .ok (.iconst 0, 1) := by decide +kernel
theorem dX1_init_45 : decode cX1_init 45 = .ok (.putfield 37, 3) := by decide +kernel
theorem dX1_init_48 : decode cX1_init 48 = .ok (.iconst 0, 1) := by decide +kernel
theorem dX1_init_49 : decode cX1_init 49 = .ok (.istore_n 1, 1) := by decide +kernel
theorem dX1_init_50 : decode cX1_init 50 = .ok (.iload_n 1, 1) := by decide +kernel
theorem dX1_init_51 : decode cX1_init 51 = .ok (.aload_n 0, 1) := by decide +kernel
theorem dX1_init_52 : decode cX1_init 52 = .ok (.getfield 20, 3) := by decide +kernel
theorem dX1_init_55 : decode cX1_init 55 = .ok (.arraylength, 1) := by decide +kernel
theorem dX1_init_56 : decode cX1_init 56 = .ok (.if_icmp .ge 22, 3) := by decide +kernel
theorem dX1_init_59 : decode cX1_init 59 = .ok (.aload_n 0, 1) := by decide +kernel
theorem dX1_init_60 : decode cX1_init 60 = .ok (.getfield 20, 3) := by decide +kernel
theorem dX1_init_63 : decode cX1_init 63 = .ok (.iload_n 1, 1) := by decide +kernel
theorem dX1_init_64 : decode cX1_init 64 = .ok (.new 18, 3) := by decide +kernel
theorem dX1_init_67 : decode cX1_init 67 = .ok (.dup, 1) := by decide +kernel
theorem dX1_init_68 : decode cX1_init 68 = .ok (.invokespecial 40, 3) := by decide +kernel
theorem dX1_init_71 : decode cX1_init 71 = .ok (.aastore, 1) := by decide +kernel
theorem dX1_init_72 : decode cX1_init 72 = .ok (.iinc 1 1, 3) := by decide +kernel
theorem dX1_init_75 : decode cX1_init 75 = .ok (.goto (-25), 3) := by decide +kernel
theorem dX1_init_78 : decode cX1_init 78 = .ok (.return_, 1) := by decide +kernel
theorem dX1_take_0 : decode cX1_take 0 = .ok (.aload_n 0, 1) := by decide +kernel
theorem dX1_take_1 : decode cX1_take 1 = .ok (.getfield 12, 3) := by decide +kernel
theorem dX1_take_4 : decode cX1_take 4 = .ok (.aload_n 1, 1) := by decide +kernel
theorem dX1_take_5 : decode cX1_take 5 = .ok (.getfield 12, 3) := by decide +kernel
theorem dX1_take_8 : decode cX1_take 8 = .ok (.invokevirtual 41, 3) := by decide +kernel
theorem dX1_take_11 : decode cX1_take 11 = .ok (.iconst 0, 1) := by decide +kernel
theorem dX1_take_12 : decode cX1_take 12 = .ok (.istore_n 2, 1) := by decide +kernel
theorem dX1_take_13 : decode cX1_take 13 = .ok (.iload_n 2, 1) := by decide +kernel
theorem dX1_take_14 : decode cX1_take 14 = .ok (.aload_n 0, 1) := by decide +kernel
theorem dX1_take_15 : decode cX1_take 15 = .ok (.getfield 20, 3) := by decide +kernel
theorem dX1_take_18 : decode cX1_take 18 = .ok (.arraylength, 1) := by decide +kernel
theorem dX1_take_19 : decode cX1_take 19 = .ok (.if_icmp .ge 51, 3) := by decide +kernel
theorem dX1_take_22 : decode cX1_take 22 = .ok (.iload_n 2, 1) := by decide +kernel
theorem dX1_take_23 : decode cX1_take 23 = .ok (.aload_n 1, 1) := by decide +kernel
theorem dX1_take_24 : decode cX1_take 24 = .ok (.getfield 20, 3) := by decide +kernel
theorem dX1_take_27 : decode cX1_take 27 = .ok (.arraylength, 1) := by decide +kernel
theorem dX1_take_28 : decode cX1_take 28 = .ok (.if_icmp .ge 42, 3) := by decide +kernel
theorem dX1_take_31 : decode cX1_take 31 = .ok (.aload_n 0, 1) := by decide +kernel
theorem dX1_take_32 : decode cX1_take 32 = .ok (.getfield 20, 3) := by decide +kernel
theorem dX1_take_35 : decode cX1_take 35 = .ok (.iload_n 2, 1) := by decide +kernel
theorem dX1_take_36 : decode cX1_take 36 = .ok (.aaload, 1) := by decide +kernel
theorem dX1_take_37 : decode cX1_take 37 = .ok (.ifnull 27, 3) := by decide +kernel
theorem dX1_take_40 : decode cX1_take 40 = .ok (.aload_n 1, 1) := by decide +kernel
theorem dX1_take_41 : decode cX1_take 41 = .ok (.getfield 20, 3) := by decide +kernel
theorem dX1_take_44 : decode cX1_take 44 = .ok (.iload_n 2, 1) := by decide +kernel
theorem dX1_take_45 : decode cX1_take 45 = .ok (.aaload, 1) := by decide +kernel
theorem dX1_take_46 : decode cX1_take 46 = .ok (.ifnull 18, 3) := by decide +kernel
theorem dX1_take_49 : decode cX1_take 49 = .ok (.aload_n 0, 1) := by decide +kernel
theorem dX1_take_50 : decode cX1_take 50 = .ok (.getfield 20, 3) := by decide +kernel
theorem dX1_take_53 : decode cX1_take 53 = .ok (.iload_n 2, 1) := by decide +kernel
theorem dX1_take_54 : decode cX1_take 54 = .ok (.aaload, 1) := by decide +kernel
theorem dX1_take_55 : decode cX1_take 55 = .ok (.aload_n 1, 1) := by decide +kernel
theorem dX1_take_56 : decode cX1_take 56 = .ok (.getfield 20, 3) := by decide +kernel
theorem dX1_take_59 : decode cX1_take 59 = .ok (.iload_n 2, 1) := by decide +kernel
theorem dX1_take_60 : decode cX1_take 60 = .ok (.aaload, 1) := by decide +kernel
theorem dX1_take_61 : decode cX1_take 61 = .ok (.invokevirtual 45, 3) := by decide +kernel
theorem dX1_take_64 : decode cX1_take 64 = .ok (.iinc 2 1, 3) := by decide +kernel
theorem dX1_take_67 : decode cX1_take 67 = .ok (.goto (-54), 3) := by decide +kernel
theorem dX1_take_70 : decode cX1_take 70 = .ok (.aload_n 0, 1) := by decide +kernel
theorem dX1_take_71 : decode cX1_take 71 = .ok (.aload_n 1, 1) := by decide +kernel
theorem dX1_take_72 : decode cX1_take 72 = .ok (.getfield 24, 3) := by decide +kernel
theorem dX1_take_75 : decode cX1_take 75 = .ok (.putfield 24, 3) := by decide +kernel
theorem dX1_take_78 : decode cX1_take 78 = .ok (.aload_n 0, 1) := by decide +kernel
theorem dX1_take_79 : decode cX1_take 79 = .ok (.aload_n 1, 1) := by decide +kernel
theorem dX1_take_80 : decode cX1_take 80 = .ok (.getfield 28, 3) := by decide +kernel
theorem dX1_take_83 : decode cX1_take 83 = .ok (.putfield 28, 3) := by decide +kernel
theorem dX1_take_86 : decode cX1_take 86 = .ok (.aload_n 0, 1) := by decide +kernel
theorem dX1_take_87 : decode cX1_take 87 = .ok (.aload_n 1, 1) := by decide +kernel
theorem dX1_take_88 : decode cX1_take 88 = .ok (.getfield 31, 3) := by decide +kernel
theorem dX1_take_91 : decode cX1_take 91 = .ok (.putfield 31, 3) := by decide +kernel
theorem dX1_take_94 : decode cX1_take 94 = .ok (.aload_n 0, 1) := by decide +kernel
theorem dX1_take_95 : decode cX1_take 95 = .ok (.aload_n 1, 1) := by decide +kernel
theorem dX1_take_96 : decode cX1_take 96 = .ok (.getfield 34, 3) := by decide +kernel
theorem dX1_take_99 : decode cX1_take 99 = .ok (.putfield 34, 3) := by decide +kernel
theorem dX1_take_102 : decode cX1_take 102 = .ok (.aload_n 0, 1) := by decide +kernel
theorem dX1_take_103 : decode cX1_take 103 = .ok (.aload_n 1, 1) := by decide +kernel
theorem dX1_take_104 : decode cX1_take 104 = .ok (.getfield 37, 3) := by decide +kernel
theorem dX1_take_107 : decode cX1_take 107 = .ok (.putfield 37, 3) := by decide +kernel
theorem dX1_take_110 : decode cX1_take 110 = .ok (.return_, 1) := by decide +kernel
theorem dX1_begin_0 : decode cX1_begin 0 = .ok (.aload_n 0, 1) := by decide +kernel
theorem dX1_begin_1 : decode cX1_begin 1 = .ok (.getfield 12, 3) := by decide +kernel
theorem dX1_begin_4 : decode cX1_begin 4 = .ok (.iload_n 1, 1) := by decide +kernel
theorem dX1_begin_5 : decode cX1_begin 5 = .ok (.iload_n 2, 1) := by decide +kernel
theorem dX1_begin_6 : decode cX1_begin 6 = .ok (.invokevirtual 48, 3) := by decide +kernel
theorem dX1_begin_9 : decode cX1_begin 9 = .ok (.aload_n 0, 1) := by decide +kernel
theorem dX1_begin_10 : decode cX1_begin 10 = .ok (.iconst 0, 1) := by decide +kernel
theorem dX1_begin_11 : decode cX1_begin 11 = .ok (.putfield 24, 3) := by decide +kernel
theorem dX1_begin_14 : decode cX1_begin 14 = .ok (.aload_n 0, 1) := by decide +kernel
theorem dX1_begin_15 : decode cX1_begin 15 = .ok (.invokevirtual 52, 3) := by decide +kernel
theorem dX1_begin_18 : decode cX1_begin 18 = .ok (.return_, 1) := by decide +kernel
theorem dX1_clearCounts_0 : decode cX1_clearCounts 0 = .ok (.aload_n 0, 1) := by decide +kernel
theorem dX1_clearCounts_1 : decode cX1_clearCounts 1 = .ok (.iconst 0, 1) := by decide +kernel
theorem dX1_clearCounts_2 : decode cX1_clearCounts 2 = .ok (.putfield 28, 3) := by decide +kernel
theorem dX1_clearCounts_5 : decode cX1_clearCounts 5 = .ok (.aload_n 0, 1) := by decide +kernel
theorem dX1_clearCounts_6 : decode cX1_clearCounts 6 = .ok (.iconst 0, 1) := by decide +kernel
theorem dX1_clearCounts_7 : decode cX1_clearCounts 7 = .ok (.putfield 31, 3) := by decide +kernel
theorem dX1_clearCounts_10 : decode cX1_clearCounts 10 = .ok (.aload_n 0, 1) := by decide +kernel
theorem dX1_clearCounts_11 : decode cX1_clearCounts 11 = .ok (.iconst 0, 1) := by decide +kernel
theorem dX1_clearCounts_12 : decode cX1_clearCounts 12 = .ok (.putfield 34, 3) := by decide +kernel
theorem dX1_clearCounts_15 : decode cX1_clearCounts 15 = .ok (.aload_n 0, 1) := by decide +kernel
theorem dX1_clearCounts_16 : decode cX1_clearCounts 16 = .ok (.iconst 0, 1) := by decide +kernel
theorem dX1_clearCounts_17 : decode cX1_clearCounts 17 = .ok (.putfield 37, 3) := by decide +kernel
theorem dX1_clearCounts_20 : decode cX1_clearCounts 20 = .ok (.return_, 1) := by decide +kernel
theorem dX1_addProxy_0 : decode cX1_addProxy 0 = .ok (.aload_n 0, 1) := by decide +kernel
theorem dX1_addProxy_1 : decode cX1_addProxy 1 = .ok (.getfield 24, 3) := by decide +kernel
theorem dX1_addProxy_4 : decode cX1_addProxy 4 = .ok (.ifCond .lt 51, 3) := by decide +kernel
theorem dX1_addProxy_7 : decode cX1_addProxy 7 = .ok (.aload_n 0, 1) := by decide +kernel
theorem dX1_addProxy_8 : decode cX1_addProxy 8 = .ok (.getfield 24, 3) := by decide +kernel
theorem dX1_addProxy_11 : decode cX1_addProxy 11 = .ok (.aload_n 0, 1) := by decide +kernel
theorem dX1_addProxy_12 : decode cX1_addProxy 12 = .ok (.getfield 20, 3) := by decide +kernel
theorem dX1_addProxy_15 : decode cX1_addProxy 15 = .ok (.arraylength, 1) := by decide +kernel
theorem dX1_addProxy_16 : decode cX1_addProxy 16 = .ok (.if_icmp .ge 39, 3) := by decide +kernel
theorem dX1_addProxy_19 : decode cX1_addProxy 19 = .ok (.aload_n 0, 1) := by decide +kernel
theorem dX1_addProxy_20 : decode cX1_addProxy 20 = .ok (.getfield 20, 3) := by decide +kernel
theorem dX1_addProxy_23 : decode cX1_addProxy 23 = .ok (.aload_n 0, 1) := by decide +kernel
theorem dX1_addProxy_24 : decode cX1_addProxy 24 = .ok (.getfield 24, 3) := by decide +kernel
theorem dX1_addProxy_27 : decode cX1_addProxy 27 = .ok (.aaload, 1) := by decide +kernel
theorem dX1_addProxy_28 : decode cX1_addProxy 28 = .ok (.ifnull 27, 3) := by decide +kernel
theorem dX1_addProxy_31 : decode cX1_addProxy 31 = .ok (.aload_n 0, 1) := by decide +kernel
theorem dX1_addProxy_32 : decode cX1_addProxy 32 = .ok (.getfield 20, 3) := by decide +kernel
theorem dX1_addProxy_35 : decode cX1_addProxy 35 = .ok (.aload_n 0, 1) := by decide +kernel
theorem dX1_addProxy_36 : decode cX1_addProxy 36 = .ok (.getfield 24, 3) := by decide +kernel
theorem dX1_addProxy_39 : decode cX1_addProxy 39 = .ok (.aaload, 1) := by decide +kernel
theorem dX1_addProxy_40 : decode cX1_addProxy 40 = .ok (.iload_n 1, 1) := by decide +kernel
theorem dX1_addProxy_41 : decode cX1_addProxy 41 = .ok (.iload_n 2, 1) := by decide +kernel
theorem dX1_addProxy_42 : decode cX1_addProxy 42 = .ok (.invokevirtual 55, 3) := by decide +kernel
theorem dX1_addProxy_45 : decode cX1_addProxy 45 = .ok (.aload_n 0, 1) := by decide +kernel
theorem dX1_addProxy_46 : decode cX1_addProxy 46 = .ok (.dup, 1) := by decide +kernel
theorem dX1_addProxy_47 : decode cX1_addProxy 47 = .ok (.getfield 24, 3) := by decide +kernel
theorem dX1_addProxy_50 : decode cX1_addProxy 50 = .ok (.iconst 1, 1) := by decide +kernel
theorem dX1_addProxy_51 : decode cX1_addProxy 51 = .ok (.iadd, 1) := by decide +kernel
theorem dX1_addProxy_52 : decode cX1_addProxy 52 = .ok (.putfield 24, 3) := by decide +kernel
theorem dX1_addProxy_55 : decode cX1_addProxy 55 = .ok (.return_, 1) := by decide +kernel
theorem dX1_complete_0 : decode cX1_complete 0 = .ok (.aload_n 0, 1) := by decide +kernel
theorem dX1_complete_1 : decode cX1_complete 1 = .ok (.getfield 12, 3) := by decide +kernel
theorem dX1_complete_4 : decode cX1_complete 4 = .ok (.getfield 56, 3) := by decide +kernel
theorem dX1_complete_7 : decode cX1_complete 7 = .ok (.ifCond .ne 12, 3) := by decide +kernel
theorem dX1_complete_10 : decode cX1_complete 10 = .ok (.aload_n 0, 1) := by decide +kernel
theorem dX1_complete_11 : decode cX1_complete 11 = .ok (.getfield 12, 3) := by decide +kernel
theorem dX1_complete_14 : decode cX1_complete 14 = .ok (.iconst 1, 1) := by decide +kernel
theorem dX1_complete_15 : decode cX1_complete 15 = .ok (.iconst 1, 1) := by decide +kernel
theorem dX1_complete_16 : decode cX1_complete 16 = .ok (.invokevirtual 59, 3) := by decide +kernel
theorem dX1_complete_19 : decode cX1_complete 19 = .ok (.aload_n 0, 1) := by decide +kernel
theorem dX1_complete_20 : decode cX1_complete 20 = .ok (.iconst 0, 1) := by decide +kernel
theorem dX1_complete_21 : decode cX1_complete 21 = .ok (.invokevirtual 62, 3) := by decide +kernel
theorem dX1_complete_24 : decode cX1_complete 24 = .ok (.pop, 1) := by decide +kernel
theorem dX1_complete_25 : decode cX1_complete 25 = .ok (.aload_n 0, 1) := by decide +kernel
theorem dX1_complete_26 : decode cX1_complete 26 = .ok (.invokevirtual 52, 3) := by decide +kernel
theorem dX1_complete_29 : decode cX1_complete 29 = .ok (.return_, 1) := by decide +kernel
theorem dX1_proxyAt_0 : decode cX1_proxyAt 0 = .ok (.iload_n 1, 1) := by decide +kernel
theorem dX1_proxyAt_1 : decode cX1_proxyAt 1 = .ok (.ifCond .lt 29, 3) := by decide +kernel
theorem dX1_proxyAt_4 : decode cX1_proxyAt 4 = .ok (.iload_n 1, 1) := by decide +kernel
theorem dX1_proxyAt_5 : decode cX1_proxyAt 5 = .ok (.aload_n 0, 1) := by decide +kernel
theorem dX1_proxyAt_6 : decode cX1_proxyAt 6 = .ok (.getfield 24, 3) := by decide +kernel
theorem dX1_proxyAt_9 : decode cX1_proxyAt 9 = .ok (.if_icmp .ge 21, 3) := by decide +kernel
theorem dX1_proxyAt_12 : decode cX1_proxyAt 12 = .ok (.iload_n 1, 1) := by decide +kernel
theorem dX1_proxyAt_13 : decode cX1_proxyAt 13 = .ok (.aload_n 0, 1) := by decide +kernel
theorem dX1_proxyAt_14 : decode cX1_proxyAt 14 = .ok (.getfield 20, 3) := by decide +kernel
theorem dX1_proxyAt_17 : decode cX1_proxyAt 17 = .ok (.arraylength, 1) := by decide +kernel
theorem dX1_proxyAt_18 : decode cX1_proxyAt 18 = .ok (.if_icmp .ge 12, 3) := by decide +kernel
theorem dX1_proxyAt_21 : decode cX1_proxyAt 21 = .ok (.aload_n 0, 1) := by decide +kernel
theorem dX1_proxyAt_22 : decode cX1_proxyAt 22 = .ok (.getfield 20, 3) := by decide +kernel
theorem dX1_proxyAt_25 : decode cX1_proxyAt 25 = .ok (.iload_n 1, 1) := by decide +kernel
theorem dX1_proxyAt_26 : decode cX1_proxyAt 26 = .ok (.aaload, 1) := by decide +kernel
theorem dX1_proxyAt_27 : decode cX1_proxyAt 27 = .ok (.goto 4, 3) := by decide +kernel
theorem dX1_proxyAt_30 : decode cX1_proxyAt 30 = .ok (.aconst_null, 1) := by decide +kernel
theorem dX1_proxyAt_31 : decode cX1_proxyAt 31 = .ok (.areturn, 1) := by decide +kernel
theorem dX1_anyRoom_0 : decode cX1_anyRoom 0 = .ok (.iconst 0, 1) := by decide +kernel
theorem dX1_anyRoom_1 : decode cX1_anyRoom 1 = .ok (.istore_n 1, 1) := by decide +kernel
theorem dX1_anyRoom_2 : decode cX1_anyRoom 2 = .ok (.iload_n 1, 1) := by decide +kernel
theorem dX1_anyRoom_3 : decode cX1_anyRoom 3 = .ok (.aload_n 0, 1) := by decide +kernel
theorem dX1_anyRoom_4 : decode cX1_anyRoom 4 = .ok (.getfield 24, 3) := by decide +kernel
theorem dX1_anyRoom_7 : decode cX1_anyRoom 7 = .ok (.if_icmp .ge 28, 3) := by decide +kernel
theorem dX1_anyRoom_10 : decode cX1_anyRoom 10 = .ok (.aload_n 0, 1) := by decide +kernel
theorem dX1_anyRoom_11 : decode cX1_anyRoom 11 = .ok (.iload_n 1, 1) := by decide +kernel
theorem dX1_anyRoom_12 : decode cX1_anyRoom 12 = .ok (.invokevirtual 66, 3) := by decide +kernel
theorem dX1_anyRoom_15 : decode cX1_anyRoom 15 = .ok (.astore_n 2, 1) := by decide +kernel
theorem dX1_anyRoom_16 : decode cX1_anyRoom 16 = .ok (.aload_n 2, 1) := by decide +kernel
theorem dX1_anyRoom_17 : decode cX1_anyRoom 17 = .ok (.ifnull 12, 3) := by decide +kernel
theorem dX1_anyRoom_20 : decode cX1_anyRoom 20 = .ok (.aload_n 2, 1) := by decide +kernel
theorem dX1_anyRoom_21 : decode cX1_anyRoom 21 = .ok (.invokevirtual 70, 3) := by decide +kernel
theorem dX1_anyRoom_24 : decode cX1_anyRoom 24 = .ok (.ifCond .eq 5, 3) := by decide +kernel
theorem dX1_anyRoom_27 : decode cX1_anyRoom 27 = .ok (.iconst 1, 1) := by decide +kernel
theorem dX1_anyRoom_28 : decode cX1_anyRoom 28 = .ok (.ireturn, 1) := by decide +kernel
theorem dX1_anyRoom_29 : decode cX1_anyRoom 29 = .ok (.iinc 1 1, 3) := by decide +kernel
theorem dX1_anyRoom_32 : decode cX1_anyRoom 32 = .ok (.goto (-30), 3) := by decide +kernel
theorem dX1_anyRoom_35 : decode cX1_anyRoom 35 = .ok (.iconst 0, 1) := by decide +kernel
theorem dX1_anyRoom_36 : decode cX1_anyRoom 36 = .ok (.ireturn, 1) := by decide +kernel
theorem dX1_cost_0 : decode cX1_cost 0 = .ok (.aload_n 0, 1) := by decide +kernel
theorem dX1_cost_1 : decode cX1_cost 1 = .ok (.getfield 28, 3) := by decide +kernel
theorem dX1_cost_4 : decode cX1_cost 4 = .ok (.aload_n 0, 1) := by decide +kernel
theorem dX1_cost_5 : decode cX1_cost 5 = .ok (.getfield 37, 3) := by decide +kernel
theorem dX1_cost_8 : decode cX1_cost 8 = .ok (.iadd, 1) := by decide +kernel
theorem dX1_cost_9 : decode cX1_cost 9 = .ok (.iconst 5, 1) := by decide +kernel
theorem dX1_cost_10 : decode cX1_cost 10 = .ok (.aload_n 0, 1) := by decide +kernel
theorem dX1_cost_11 : decode cX1_cost 11 = .ok (.getfield 34, 3) := by decide +kernel
theorem dX1_cost_14 : decode cX1_cost 14 = .ok (.imul, 1) := by decide +kernel
theorem dX1_cost_15 : decode cX1_cost 15 = .ok (.iadd, 1) := by decide +kernel
theorem dX1_cost_16 : decode cX1_cost 16 = .ok (.ireturn, 1) := by decide +kernel
theorem dX1_allPages_0 : decode cX1_allPages 0 = .ok (.iconst 0, 1) := by decide +kernel
theorem dX1_allPages_1 : decode cX1_allPages 1 = .ok (.istore_n 1, 1) := by decide +kernel
theorem dX1_allPages_2 : decode cX1_allPages 2 = .ok (.iconst 0, 1) := by decide +kernel
theorem dX1_allPages_3 : decode cX1_allPages 3 = .ok (.istore_n 2, 1) := by decide +kernel
theorem dX1_allPages_4 : decode cX1_allPages 4 = .ok (.iload_n 2, 1) := by decide +kernel
theorem dX1_allPages_5 : decode cX1_allPages 5 = .ok (.aload_n 0, 1) := by decide +kernel
theorem dX1_allPages_6 : decode cX1_allPages 6 = .ok (.getfield 24, 3) := by decide +kernel
theorem dX1_allPages_9 : decode cX1_allPages 9 = .ok (.if_icmp .ge 26, 3) := by decide +kernel
theorem dX1_allPages_12 : decode cX1_allPages 12 = .ok (.aload_n 0, 1) := by decide +kernel
theorem dX1_allPages_13 : decode cX1_allPages 13 = .ok (.iload_n 2, 1) := by decide +kernel
theorem dX1_allPages_14 : decode cX1_allPages 14 = .ok (.invokevirtual 66, 3) := by decide +kernel
theorem dX1_allPages_17 : decode cX1_allPages 17 = .ok (.astore_n 3, 1) := by decide +kernel
theorem dX1_allPages_18 : decode cX1_allPages 18 = .ok (.aload_n 3, 1) := by decide +kernel
theorem dX1_allPages_19 : decode cX1_allPages 19 = .ok (.ifnull 10, 3) := by decide +kernel
theorem dX1_allPages_22 : decode cX1_allPages 22 = .ok (.iload_n 1, 1) := by decide +kernel
theorem dX1_allPages_23 : decode cX1_allPages 23 = .ok (.aload_n 3, 1) := by decide +kernel
theorem dX1_allPages_24 : decode cX1_allPages 24 = .ok (.getfield 74, 3) := by decide +kernel
theorem dX1_allPages_27 : decode cX1_allPages 27 = .ok (.iadd, 1) := by decide +kernel
theorem dX1_allPages_28 : decode cX1_allPages 28 = .ok (.istore_n 1, 1) := by decide +kernel
theorem dX1_allPages_29 : decode cX1_allPages 29 = .ok (.iinc 2 1, 3) := by decide +kernel
theorem dX1_allPages_32 : decode cX1_allPages 32 = .ok (.goto (-28), 3) := by decide +kernel
theorem dX1_allPages_35 : decode cX1_allPages 35 = .ok (.iload_n 1, 1) := by decide +kernel
theorem dX1_allPages_36 : decode cX1_allPages 36 = .ok (.ireturn, 1) := by decide +kernel
theorem dX1_holders_0 : decode cX1_holders 0 = .ok (.iconst 0, 1) := by decide +kernel
theorem dX1_holders_1 : decode cX1_holders 1 = .ok (.istore_n 2, 1) := by decide +kernel
theorem dX1_holders_2 : decode cX1_holders 2 = .ok (.iconst 0, 1) := by decide +kernel
theorem dX1_holders_3 : decode cX1_holders 3 = .ok (.istore_n 3, 1) := by decide +kernel
theorem dX1_holders_4 : decode cX1_holders 4 = .ok (.iload_n 3, 1) := by decide +kernel
theorem dX1_holders_5 : decode cX1_holders 5 = .ok (.aload_n 0, 1) := by decide +kernel
theorem dX1_holders_6 : decode cX1_holders 6 = .ok (.getfield 24, 3) := by decide +kernel
theorem dX1_holders_9 : decode cX1_holders 9 = .ok (.if_icmp .ge 33, 3) := by decide +kernel
theorem dX1_holders_12 : decode cX1_holders 12 = .ok (.aload_n 0, 1) := by decide +kernel
theorem dX1_holders_13 : decode cX1_holders 13 = .ok (.iload_n 3, 1) := by decide +kernel
theorem dX1_holders_14 : decode cX1_holders 14 = .ok (.invokevirtual 66, 3) := by decide +kernel
theorem dX1_holders_17 : decode cX1_holders 17 = .ok (.astore 4, 2) := by decide +kernel
theorem dX1_holders_19 : decode cX1_holders 19 = .ok (.aload 4, 2) := by decide +kernel
theorem dX1_holders_21 : decode cX1_holders 21 = .ok (.ifnull 15, 3) := by decide +kernel
theorem dX1_holders_24 : decode cX1_holders 24 = .ok (.aload 4, 2) := by decide +kernel
theorem dX1_holders_26 : decode cX1_holders 26 = .ok (.iload_n 1, 1) := by decide +kernel
theorem dX1_holders_27 : decode cX1_holders 27 = .ok (.invokevirtual 77, 3) := by decide +kernel
theorem dX1_holders_30 : decode cX1_holders 30 = .ok (.ifCond .eq 6, 3) := by decide +kernel
theorem dX1_holders_33 : decode cX1_holders 33 = .ok (.iinc 2 1, 3) := by decide +kernel
theorem dX1_holders_36 : decode cX1_holders 36 = .ok (.iinc 3 1, 3) := by decide +kernel
theorem dX1_holders_39 : decode cX1_holders 39 = .ok (.goto (-35), 3) := by decide +kernel
theorem dX1_holders_42 : decode cX1_holders 42 = .ok (.iload_n 2, 1) := by decide +kernel
theorem dX1_holders_43 : decode cX1_holders 43 = .ok (.ireturn, 1) := by decide +kernel
theorem dX1_isSo_0 : decode cX1_isSo 0 = .ok (.iload_n 2, 1) := by decide +kernel
theorem dX1_isSo_1 : decode cX1_isSo 1 = .ok (.ifCond .ne 9, 3) := by decide +kernel
theorem dX1_isSo_4 : decode cX1_isSo 4 = .ok (.aload_n 1, 1) := by decide +kernel
theorem dX1_isSo_5 : decode cX1_isSo 5 = .ok (.iload_n 3, 1) := by decide +kernel
theorem dX1_isSo_6 : decode cX1_isSo 6 = .ok (.invokevirtual 77, 3) := by decide +kernel
theorem dX1_isSo_9 : decode cX1_isSo 9 = .ok (.ireturn, 1) := by decide +kernel
theorem dX1_isSo_10 : decode cX1_isSo 10 = .ok (.iload_n 2, 1) := by decide +kernel
theorem dX1_isSo_11 : decode cX1_isSo 11 = .ok (.iconst 1, 1) := by decide +kernel
theorem dX1_isSo_12 : decode cX1_isSo 12 = .ok (.if_icmp .ne 10, 3) := by decide +kernel
theorem dX1_isSo_15 : decode cX1_isSo 15 = .ok (.aload_n 1, 1) := by decide +kernel
theorem dX1_isSo_16 : decode cX1_isSo 16 = .ok (.getfield 80, 3) := by decide +kernel
theorem dX1_isSo_19 : decode cX1_isSo 19 = .ok (.goto 7, 3) := by decide +kernel
theorem dX1_isSo_22 : decode cX1_isSo 22 = .ok (.aload_n 1, 1) := by decide +kernel
theorem dX1_isSo_23 : decode cX1_isSo 23 = .ok (.invokevirtual 83, 3) := by decide +kernel
theorem dX1_isSo_26 : decode cX1_isSo 26 = .ok (.istore 4, 2) := by decide +kernel
theorem dX1_isSo_28 : decode cX1_isSo 28 = .ok (.aload_n 0, 1) := by decide +kernel
theorem dX1_isSo_29 : decode cX1_isSo 29 = .ok (.getfield 12, 3) := by decide +kernel
theorem dX1_isSo_32 : decode cX1_isSo 32 = .ok (.iload 4, 2) := by decide +kernel
theorem dX1_isSo_34 : decode cX1_isSo 34 = .ok (.aload_n 0, 1) := by decide +kernel
theorem dX1_isSo_35 : decode cX1_isSo 35 = .ok (.getfield 12, 3) := by decide +kernel
theorem dX1_isSo_38 : decode cX1_isSo 38 = .ok (.getfield 87, 3) := by decide +kernel
theorem dX1_isSo_41 : decode cX1_isSo 41 = .ok (.iload_n 3, 1) := by decide +kernel
theorem dX1_isSo_42 : decode cX1_isSo 42 = .ok (.invokevirtual 90, 3) := by decide +kernel
theorem dX1_isSo_45 : decode cX1_isSo 45 = .ok (.ireturn, 1) := by decide +kernel
theorem dX1_claimed_0 : decode cX1_claimed 0 = .ok (.aload_n 0, 1) := by decide +kernel
theorem dX1_claimed_1 : decode cX1_claimed 1 = .ok (.getfield 12, 3) := by decide +kernel
theorem dX1_claimed_4 : decode cX1_claimed 4 = .ok (.aload_n 1, 1) := by decide +kernel
theorem dX1_claimed_5 : decode cX1_claimed 5 = .ok (.getfield 80, 3) := by decide +kernel
theorem dX1_claimed_8 : decode cX1_claimed 8 = .ok (.aload_n 0, 1) := by decide +kernel
theorem dX1_claimed_9 : decode cX1_claimed 9 = .ok (.getfield 12, 3) := by decide +kernel
theorem dX1_claimed_12 : decode cX1_claimed 12 = .ok (.getfield 87, 3) := by decide +kernel
theorem dX1_claimed_15 : decode cX1_claimed 15 = .ok (.invokevirtual 94, 3) := by decide +kernel
theorem dX1_claimed_18 : decode cX1_claimed 18 = .ok (.ireturn, 1) := by decide +kernel
theorem dX1_wrongPages_0 : decode cX1_wrongPages 0 = .ok (.iconst 0, 1) := by decide +kernel
theorem dX1_wrongPages_1 : decode cX1_wrongPages 1 = .ok (.istore_n 3, 1) := by decide +kernel
theorem dX1_wrongPages_2 : decode cX1_wrongPages 2 = .ok (.iconst 0, 1) := by decide +kernel
theorem dX1_wrongPages_3 : decode cX1_wrongPages 3 = .ok (.istore 4, 2) := by decide +kernel
theorem dX1_wrongPages_5 : decode cX1_wrongPages 5 = .ok (.iload 4, 2) := by decide +kernel
theorem dX1_wrongPages_7 : decode cX1_wrongPages 7 = .ok (.aload_n 1, 1) := by decide +kernel
theorem dX1_wrongPages_8 : decode cX1_wrongPages 8 = .ok (.getfield 74, 3) := by decide +kernel
theorem dX1_wrongPages_11 : decode cX1_wrongPages 11 = .ok (.if_icmp .ge 26, 3) := by decide +kernel
theorem dX1_wrongPages_14 : decode cX1_wrongPages 14 = .ok (.iload_n 3, 1) := by decide +kernel
theorem dX1_wrongPages_15 : decode cX1_wrongPages 15 = .ok (.aload_n 0, 1) := by decide +kernel
theorem dX1_wrongPages_16 : decode cX1_wrongPages 16 = .ok (.getfield 12, 3) := by decide +kernel
theorem dX1_wrongPages_19 : decode cX1_wrongPages 19 = .ok (.iload_n 2, 1) := by decide +kernel
theorem dX1_wrongPages_20 : decode cX1_wrongPages 20 = .ok (.aload_n 1, 1) := by decide +kernel
theorem dX1_wrongPages_21 : decode cX1_wrongPages 21 = .ok (.iload 4, 2) := by decide +kernel
theorem dX1_wrongPages_23 : decode cX1_wrongPages 23 = .ok (.invokevirtual 98, 3) := by decide +kernel
theorem dX1_wrongPages_26 : decode cX1_wrongPages 26 = .ok (.invokevirtual 102, 3) := by decide +kernel
theorem dX1_wrongPages_29 : decode cX1_wrongPages 29 = .ok (.ior, 1) := by decide +kernel
theorem dX1_wrongPages_30 : decode cX1_wrongPages 30 = .ok (.istore_n 3, 1) := by decide +kernel
theorem dX1_wrongPages_31 : decode cX1_wrongPages 31 = .ok (.iinc 4 1, 3) := by decide +kernel
theorem dX1_wrongPages_34 : decode cX1_wrongPages 34 = .ok (.goto (-29), 3) := by decide +kernel
theorem dX1_wrongPages_37 : decode cX1_wrongPages 37 = .ok (.aload_n 0, 1) := by decide +kernel
theorem dX1_wrongPages_38 : decode cX1_wrongPages 38 = .ok (.getfield 12, 3) := by decide +kernel
theorem dX1_wrongPages_41 : decode cX1_wrongPages 41 = .ok (.iload_n 3, 1) := by decide +kernel
theorem dX1_wrongPages_42 : decode cX1_wrongPages 42 = .ok (.iload_n 2, 1) := by decide +kernel
theorem dX1_wrongPages_43 : decode cX1_wrongPages 43 = .ok (.invokevirtual 94, 3) := by decide +kernel
theorem dX1_wrongPages_46 : decode cX1_wrongPages 46 = .ok (.aload_n 1, 1) := by decide +kernel
theorem dX1_wrongPages_47 : decode cX1_wrongPages 47 = .ok (.invokevirtual 105, 3) := by decide +kernel
theorem dX1_wrongPages_50 : decode cX1_wrongPages 50 = .ok (.iconst (-1), 1) := by decide +kernel
theorem dX1_wrongPages_51 : decode cX1_wrongPages 51 = .ok (.ixor, 1) := by decide +kernel
theorem dX1_wrongPages_52 : decode cX1_wrongPages 52 = .ok (.iand, 1) := by decide +kernel
theorem dX1_wrongPages_53 : decode cX1_wrongPages 53 = .ok (.invokestatic 108, 3) := by decide +kernel
theorem dX1_wrongPages_56 : decode cX1_wrongPages 56 = .ok (.ireturn, 1) := by decide +kernel
theorem dX1_request_0 : decode cX1_request 0 = .ok (.aload_n 0, 1) := by decide +kernel
theorem dX1_request_1 : decode cX1_request 1 = .ok (.iload_n 1, 1) := by decide +kernel
theorem dX1_request_2 : decode cX1_request 2 = .ok (.invokevirtual 66, 3) := by decide +kernel
theorem dX1_request_5 : decode cX1_request 5 = .ok (.astore_n 3, 1) := by decide +kernel
theorem dX1_request_6 : decode cX1_request 6 = .ok (.aload_n 3, 1) := by decide +kernel
theorem dX1_request_7 : decode cX1_request 7 = .ok (.ifnonnull 5, 3) := by decide +kernel
theorem dX1_request_10 : decode cX1_request 10 = .ok (.iconst (-1), 1) := by decide +kernel
theorem dX1_request_11 : decode cX1_request 11 = .ok (.ireturn, 1) := by decide +kernel
theorem dX1_request_12 : decode cX1_request 12 = .ok (.bipush 10, 2) := by decide +kernel
theorem dX1_request_14 : decode cX1_request 14 = .ok (.istore 4, 2) := by decide +kernel
theorem dX1_request_16 : decode cX1_request 16 = .ok (.aload_n 3, 1) := by decide +kernel
theorem dX1_request_17 : decode cX1_request 17 = .ok (.iload_n 2, 1) := by decide +kernel
theorem dX1_request_18 : decode cX1_request 18 = .ok (.invokevirtual 77, 3) := by decide +kernel
theorem dX1_request_21 : decode cX1_request 21 = .ok (.ifCond .eq 11, 3) := by decide +kernel
theorem dX1_request_24 : decode cX1_request 24 = .ok (.aload_n 3, 1) := by decide +kernel
theorem dX1_request_25 : decode cX1_request 25 = .ok (.iload_n 2, 1) := by decide +kernel
theorem dX1_request_26 : decode cX1_request 26 = .ok (.invokevirtual 113, 3) := by decide +kernel
theorem dX1_request_29 : decode cX1_request 29 = .ok (.goto 56, 3) := by decide +kernel
theorem dX1_request_32 : decode cX1_request 32 = .ok (.aload_n 0, 1) := by decide +kernel
theorem dX1_request_33 : decode cX1_request 33 = .ok (.iload_n 1, 1) := by decide +kernel
theorem dX1_request_34 : decode cX1_request 34 = .ok (.iload_n 2, 1) := by decide +kernel
theorem dX1_request_35 : decode cX1_request 35 = .ok (.invokevirtual 117, 3) := by decide +kernel
theorem dX1_request_38 : decode cX1_request 38 = .ok (.istore 4, 2) := by decide +kernel
theorem dX1_request_40 : decode cX1_request 40 = .ok (.iload 4, 2) := by decide +kernel
theorem dX1_request_42 : decode cX1_request 42 = .ok (.bipush (-9), 2) := by decide +kernel
theorem dX1_request_44 : decode cX1_request 44 = .ok (.if_icmp .ne 13, 3) := by decide +kernel
theorem dX1_request_47 : decode cX1_request 47 = .ok (.aload_n 0, 1) := by decide +kernel
theorem dX1_request_48 : decode cX1_request 48 = .ok (.dup, 1) := by decide +kernel
theorem dX1_request_49 : decode cX1_request 49 = .ok (.getfield 34, 3) := by decide +kernel
theorem dX1_request_52 : decode cX1_request 52 = .ok (.iconst 1, 1) := by decide +kernel
theorem dX1_request_53 : decode cX1_request 53 = .ok (.iadd, 1) := by decide +kernel
theorem dX1_request_54 : decode cX1_request 54 = .ok (.putfield 34, 3) := by decide +kernel
theorem dX1_request_57 : decode cX1_request 57 = .ok (.aload_n 3, 1) := by decide +kernel
theorem dX1_request_58 : decode cX1_request 58 = .ok (.invokevirtual 70, 3) := by decide +kernel
theorem dX1_request_61 : decode cX1_request 61 = .ok (.ifCond .ne 18, 3) := by decide +kernel
theorem dX1_request_64 : decode cX1_request 64 = .ok (.aload_n 0, 1) := by decide +kernel
theorem dX1_request_65 : decode cX1_request 65 = .ok (.aload_n 3, 1) := by decide +kernel
theorem dX1_request_66 : decode cX1_request 66 = .ok (.aload_n 3, 1) := by decide +kernel
theorem dX1_request_67 : decode cX1_request 67 = .ok (.aload_n 3, 1) := by decide +kernel
theorem dX1_request_68 : decode cX1_request 68 = .ok (.getfield 74, 3) := by decide +kernel
theorem dX1_request_71 : decode cX1_request 71 = .ok (.iconst 1, 1) := by decide +kernel
theorem dX1_request_72 : decode cX1_request 72 = .ok (.isub, 1) := by decide +kernel
theorem dX1_request_73 : decode cX1_request 73 = .ok (.invokevirtual 98, 3) := by decide +kernel
theorem dX1_request_76 : decode cX1_request 76 = .ok (.invokevirtual 120, 3) := by decide +kernel
theorem dX1_request_79 : decode cX1_request 79 = .ok (.aload_n 0, 1) := by decide +kernel
theorem dX1_request_80 : decode cX1_request 80 = .ok (.aload_n 3, 1) := by decide +kernel
theorem dX1_request_81 : decode cX1_request 81 = .ok (.iload_n 2, 1) := by decide +kernel
theorem dX1_request_82 : decode cX1_request 82 = .ok (.invokevirtual 124, 3) := by decide +kernel
theorem dX1_request_85 : decode cX1_request 85 = .ok (.aload_n 0, 1) := by decide +kernel
theorem dX1_request_86 : decode cX1_request 86 = .ok (.invokevirtual 127, 3) := by decide +kernel
theorem dX1_request_89 : decode cX1_request 89 = .ok (.iload 4, 2) := by decide +kernel
theorem dX1_request_91 : decode cX1_request 91 = .ok (.ireturn, 1) := by decide +kernel
theorem dX1_searchOthers_0 : decode cX1_searchOthers 0 = .ok (.iconst 0, 1) := by decide +kernel
theorem dX1_searchOthers_1 : decode cX1_searchOthers 1 = .ok (.istore_n 3, 1) := by decide +kernel
theorem dX1_searchOthers_2 : decode cX1_searchOthers 2 = .ok (.iload_n 3, 1) := by decide +kernel
theorem dX1_searchOthers_3 : decode cX1_searchOthers 3 = .ok (.aload_n 0, 1) := by decide +kernel
theorem dX1_searchOthers_4 : decode cX1_searchOthers 4 = .ok (.getfield 24, 3) := by decide +kernel
theorem dX1_searchOthers_7 : decode cX1_searchOthers 7 = .ok (.if_icmp .ge 86, 3) := by decide +kernel
theorem dX1_searchOthers_10 : decode cX1_searchOthers 10 = .ok (.aload_n 0, 1) := by decide +kernel
theorem dX1_searchOthers_11 : decode cX1_searchOthers 11 = .ok (.iload_n 3, 1) := by decide +kernel
theorem dX1_searchOthers_12 : decode cX1_searchOthers 12 = .ok (.invokevirtual 66, 3) := by decide +kernel
theorem dX1_searchOthers_15 : decode cX1_searchOthers 15 = .ok (.astore 4, 2) := by decide +kernel
theorem dX1_searchOthers_17 : decode cX1_searchOthers 17 = .ok (.iload_n 3, 1) := by decide +kernel
theorem dX1_searchOthers_18 : decode cX1_searchOthers 18 = .ok (.iload_n 1, 1) := by decide +kernel
theorem dX1_searchOthers_19 : decode cX1_searchOthers 19 = .ok (.if_icmp .eq 68, 3) := by decide +kernel
theorem dX1_searchOthers_22 : decode cX1_searchOthers 22 = .ok (.aload 4, 2) := by decide +kernel
theorem dX1_searchOthers_24 : decode cX1_searchOthers 24 = .ok (.ifnull 63, 3) := by decide +kernel
theorem dX1_searchOthers_27 : decode cX1_searchOthers 27 = .ok (.aload_n 0, 1) := by decide +kernel
theorem dX1_searchOthers_28 : decode cX1_searchOthers 28 = .ok (.getfield 12, 3) := by decide +kernel
theorem dX1_searchOthers_31 : decode cX1_searchOthers 31 = .ok (.aload 4, 2) := by decide +kernel
theorem dX1_searchOthers_33 : decode cX1_searchOthers 33 = .ok (.getfield 80, 3) := by decide +kernel
theorem dX1_searchOthers_36 : decode cX1_searchOthers 36 = .ok (.aload_n 0, 1) := by decide +kernel
theorem dX1_searchOthers_37 : decode cX1_searchOthers 37 = .ok (.getfield 12, 3) := by decide +kernel
theorem dX1_searchOthers_40 : decode cX1_searchOthers 40 = .ok (.getfield 87, 3) := by decide +kernel
theorem dX1_searchOthers_43 : decode cX1_searchOthers 43 = .ok (.iload_n 2, 1) := by decide +kernel
theorem dX1_searchOthers_44 : decode cX1_searchOthers 44 = .ok (.invokevirtual 90, 3) := by decide +kernel
theorem dX1_searchOthers_47 : decode cX1_searchOthers 47 = .ok (.ifCond .eq 40, 3) := by decide +kernel
theorem dX1_searchOthers_50 : decode cX1_searchOthers 50 = .ok (.aload_n 0, 1) := by decide +kernel
theorem dX1_searchOthers_51 : decode cX1_searchOthers 51 = .ok (.dup, 1) := by decide +kernel
theorem dX1_searchOthers_52 : decode cX1_searchOthers 52 = .ok (.getfield 28, 3) := by decide +kernel
theorem dX1_searchOthers_55 : decode cX1_searchOthers 55 = .ok (.iconst 1, 1) := by decide +kernel
theorem dX1_searchOthers_56 : decode cX1_searchOthers 56 = .ok (.iadd, 1) := by decide +kernel
theorem dX1_searchOthers_57 : decode cX1_searchOthers 57 = .ok (.putfield 28, 3) := by decide +kernel
theorem dX1_searchOthers_60 : decode cX1_searchOthers 60 = .ok (.aload 4, 2) := by decide +kernel
theorem dX1_searchOthers_62 : decode cX1_searchOthers 62 = .ok (.iload_n 2, 1) := by decide +kernel
theorem dX1_searchOthers_63 : decode cX1_searchOthers 63 = .ok (.invokevirtual 77, 3) := by decide +kernel
theorem dX1_searchOthers_66 : decode cX1_searchOthers 66 = .ok (.ifCond .eq 11, 3) := by decide +kernel
theorem dX1_searchOthers_69 : decode cX1_searchOthers 69 = .ok (.aload 4, 2) := by decide +kernel
theorem dX1_searchOthers_71 : decode cX1_searchOthers 71 = .ok (.iload_n 2, 1) := by decide +kernel
theorem dX1_searchOthers_72 : decode cX1_searchOthers 72 = .ok (.invokevirtual 113, 3) := by decide +kernel
theorem dX1_searchOthers_75 : decode cX1_searchOthers 75 = .ok (.iload_n 3, 1) := by decide +kernel
theorem dX1_searchOthers_76 : decode cX1_searchOthers 76 = .ok (.ireturn, 1) := by decide +kernel
theorem dX1_searchOthers_77 : decode cX1_searchOthers 77 = .ok (.aload_n 0, 1) := by decide +kernel
theorem dX1_searchOthers_78 : decode cX1_searchOthers 78 = .ok (.dup, 1) := by decide +kernel
theorem dX1_searchOthers_79 : decode cX1_searchOthers 79 = .ok (.getfield 31, 3) := by decide +kernel
theorem dX1_searchOthers_82 : decode cX1_searchOthers 82 = .ok (.iconst 1, 1) := by decide +kernel
theorem dX1_searchOthers_83 : decode cX1_searchOthers 83 = .ok (.iadd, 1) := by decide +kernel
theorem dX1_searchOthers_84 : decode cX1_searchOthers 84 = .ok (.putfield 31, 3) := by decide +kernel
theorem dX1_searchOthers_87 : decode cX1_searchOthers 87 = .ok (.iinc 3 1, 3) := by decide +kernel
theorem dX1_searchOthers_90 : decode cX1_searchOthers 90 = .ok (.goto (-88), 3) := by decide +kernel
theorem dX1_searchOthers_93 : decode cX1_searchOthers 93 = .ok (.bipush (-9), 2) := by decide +kernel
theorem dX1_searchOthers_95 : decode cX1_searchOthers 95 = .ok (.ireturn, 1) := by decide +kernel
theorem dX1_addPage_0 : decode cX1_addPage 0 = .ok (.aload_n 1, 1) := by decide +kernel
theorem dX1_addPage_1 : decode cX1_addPage 1 = .ok (.iload_n 2, 1) := by decide +kernel
theorem dX1_addPage_2 : decode cX1_addPage 2 = .ok (.invokevirtual 130, 3) := by decide +kernel
theorem dX1_addPage_5 : decode cX1_addPage 5 = .ok (.aload_n 0, 1) := by decide +kernel
theorem dX1_addPage_6 : decode cX1_addPage 6 = .ok (.aload_n 1, 1) := by decide +kernel
theorem dX1_addPage_7 : decode cX1_addPage 7 = .ok (.iload_n 2, 1) := by decide +kernel
theorem dX1_addPage_8 : decode cX1_addPage 8 = .ok (.iconst 1, 1) := by decide +kernel
theorem dX1_addPage_9 : decode cX1_addPage 9 = .ok (.invokevirtual 133, 3) := by decide +kernel
theorem dX1_addPage_12 : decode cX1_addPage 12 = .ok (.aload_n 1, 1) := by decide +kernel
theorem dX1_addPage_13 : decode cX1_addPage 13 = .ok (.dup, 1) := by decide +kernel
theorem dX1_addPage_14 : decode cX1_addPage 14 = .ok (.getfield 137, 3) := by decide +kernel
theorem dX1_addPage_17 : decode cX1_addPage 17 = .ok (.iconst 1, 1) := by decide +kernel
theorem dX1_addPage_18 : decode cX1_addPage 18 = .ok (.iadd, 1) := by decide +kernel
theorem dX1_addPage_19 : decode cX1_addPage 19 = .ok (.putfield 137, 3) := by decide +kernel
theorem dX1_addPage_22 : decode cX1_addPage 22 = .ok (.return_, 1) := by decide +kernel
theorem dX1_removePage_0 : decode cX1_removePage 0 = .ok (.aload_n 1, 1) := by decide +kernel
theorem dX1_removePage_1 : decode cX1_removePage 1 = .ok (.aload_n 1, 1) := by decide +kernel
theorem dX1_removePage_2 : decode cX1_removePage 2 = .ok (.iload_n 2, 1) := by decide +kernel
theorem dX1_removePage_3 : decode cX1_removePage 3 = .ok (.invokevirtual 140, 3) := by decide +kernel
theorem dX1_removePage_6 : decode cX1_removePage 6 = .ok (.invokevirtual 143, 3) := by decide +kernel
theorem dX1_removePage_9 : decode cX1_removePage 9 = .ok (.aload_n 0, 1) := by decide +kernel
theorem dX1_removePage_10 : decode cX1_removePage 10 = .ok (.aload_n 1, 1) := by decide +kernel
theorem dX1_removePage_11 : decode cX1_removePage 11 = .ok (.iload_n 2, 1) := by decide +kernel
theorem dX1_removePage_12 : decode cX1_removePage 12 = .ok (.iconst (-1), 1) := by decide +kernel
theorem dX1_removePage_13 : decode cX1_removePage 13 = .ok (.invokevirtual 133, 3) := by decide +kernel
theorem dX1_removePage_16 : decode cX1_removePage 16 = .ok (.aload_n 1, 1) := by decide +kernel
theorem dX1_removePage_17 : decode cX1_removePage 17 = .ok (.dup, 1) := by decide +kernel
theorem dX1_removePage_18 : decode cX1_removePage 18 = .ok (.getfield 137, 3) := by decide +kernel
theorem dX1_removePage_21 : decode cX1_removePage 21 = .ok (.iconst 1, 1) := by decide +kernel
theorem dX1_removePage_22 : decode cX1_removePage 22 = .ok (.iadd, 1) := by decide +kernel
theorem dX1_removePage_23 : decode cX1_removePage 23 = .ok (.putfield 137, 3) := by decide +kernel
theorem dX1_removePage_26 : decode cX1_removePage 26 = .ok (.return_, 1) := by decide +kernel
theorem dX1_tally_0 : decode cX1_tally 0 = .ok (.iconst 0, 1) := by decide +kernel
theorem dX1_tally_1 : decode cX1_tally 1 = .ok (.istore 4, 2) := by decide +kernel
theorem dX1_tally_3 : decode cX1_tally 3 = .ok (.iload 4, 2) := by decide +kernel
theorem dX1_tally_5 : decode cX1_tally 5 = .ok (.aload_n 0, 1) := by decide +kernel
theorem dX1_tally_6 : decode cX1_tally 6 = .ok (.getfield 12, 3) := by decide +kernel
theorem dX1_tally_9 : decode cX1_tally 9 = .ok (.getfield 146, 3) := by decide +kernel
theorem dX1_tally_12 : decode cX1_tally 12 = .ok (.if_icmp .ge 31, 3) := by decide +kernel
theorem dX1_tally_15 : decode cX1_tally 15 = .ok (.aload_n 1, 1) := by decide +kernel
theorem dX1_tally_16 : decode cX1_tally 16 = .ok (.aload_n 0, 1) := by decide +kernel
theorem dX1_tally_17 : decode cX1_tally 17 = .ok (.getfield 12, 3) := by decide +kernel
theorem dX1_tally_20 : decode cX1_tally 20 = .ok (.aload_n 0, 1) := by decide +kernel
theorem dX1_tally_21 : decode cX1_tally 21 = .ok (.getfield 12, 3) := by decide +kernel
theorem dX1_tally_24 : decode cX1_tally 24 = .ok (.getfield 87, 3) := by decide +kernel
theorem dX1_tally_27 : decode cX1_tally 27 = .ok (.iload_n 2, 1) := by decide +kernel
theorem dX1_tally_28 : decode cX1_tally 28 = .ok (.iload 4, 2) := by decide +kernel
theorem dX1_tally_30 : decode cX1_tally 30 = .ok (.invokevirtual 149, 3) := by decide +kernel
theorem dX1_tally_33 : decode cX1_tally 33 = .ok (.iload_n 3, 1) := by decide +kernel
theorem dX1_tally_34 : decode cX1_tally 34 = .ok (.invokevirtual 153, 3) := by decide +kernel
theorem dX1_tally_37 : decode cX1_tally 37 = .ok (.iinc 4 1, 3) := by decide +kernel
theorem dX1_tally_40 : decode cX1_tally 40 = .ok (.goto (-37), 3) := by decide +kernel
theorem dX1_tally_43 : decode cX1_tally 43 = .ok (.return_, 1) := by decide +kernel
theorem dX1_discard_0 : decode cX1_discard 0 = .ok (.aload_n 1, 1) := by decide +kernel
theorem dX1_discard_1 : decode cX1_discard 1 = .ok (.iload_n 2, 1) := by decide +kernel
theorem dX1_discard_2 : decode cX1_discard 2 = .ok (.invokevirtual 77, 3) := by decide +kernel
theorem dX1_discard_5 : decode cX1_discard 5 = .ok (.ifCond .ne 5, 3) := by decide +kernel
theorem dX1_discard_8 : decode cX1_discard 8 = .ok (.iconst 0, 1) := by decide +kernel
theorem dX1_discard_9 : decode cX1_discard 9 = .ok (.ireturn, 1) := by decide +kernel
theorem dX1_discard_10 : decode cX1_discard 10 = .ok (.aload_n 0, 1) := by decide +kernel
theorem dX1_discard_11 : decode cX1_discard 11 = .ok (.aload_n 1, 1) := by decide +kernel
theorem dX1_discard_12 : decode cX1_discard 12 = .ok (.iload_n 2, 1) := by decide +kernel
theorem dX1_discard_13 : decode cX1_discard 13 = .ok (.invokevirtual 120, 3) := by decide +kernel
theorem dX1_discard_16 : decode cX1_discard 16 = .ok (.aload_n 0, 1) := by decide +kernel
theorem dX1_discard_17 : decode cX1_discard 17 = .ok (.invokevirtual 127, 3) := by decide +kernel
theorem dX1_discard_20 : decode cX1_discard 20 = .ok (.iconst 1, 1) := by decide +kernel
theorem dX1_discard_21 : decode cX1_discard 21 = .ok (.ireturn, 1) := by decide +kernel
theorem dX1_spread_0 : decode cX1_spread 0 = .ok (.aload_n 1, 1) := by decide +kernel
theorem dX1_spread_1 : decode cX1_spread 1 = .ok (.aload_n 1, 1) := by decide +kernel
theorem dX1_spread_2 : decode cX1_spread 2 = .ok (.invokevirtual 83, 3) := by decide +kernel
theorem dX1_spread_5 : decode cX1_spread 5 = .ok (.putfield 80, 3) := by decide +kernel
theorem dX1_spread_8 : decode cX1_spread 8 = .ok (.aload_n 1, 1) := by decide +kernel
theorem dX1_spread_9 : decode cX1_spread 9 = .ok (.iconst 0, 1) := by decide +kernel
theorem dX1_spread_10 : decode cX1_spread 10 = .ok (.putfield 137, 3) := by decide +kernel
theorem dX1_spread_13 : decode cX1_spread 13 = .ok (.aload_n 0, 1) := by decide +kernel
theorem dX1_spread_14 : decode cX1_spread 14 = .ok (.dup, 1) := by decide +kernel
theorem dX1_spread_15 : decode cX1_spread 15 = .ok (.getfield 37, 3) := by decide +kernel
theorem dX1_spread_18 : decode cX1_spread 18 = .ok (.aload_n 0, 1) := by decide +kernel
theorem dX1_spread_19 : decode cX1_spread 19 = .ok (.getfield 24, 3) := by decide +kernel
theorem dX1_spread_22 : decode cX1_spread 22 = .ok (.iconst 1, 1) := by decide +kernel
theorem dX1_spread_23 : decode cX1_spread 23 = .ok (.isub, 1) := by decide +kernel
theorem dX1_spread_24 : decode cX1_spread 24 = .ok (.iadd, 1) := by decide +kernel
theorem dX1_spread_25 : decode cX1_spread 25 = .ok (.putfield 37, 3) := by decide +kernel
theorem dX1_spread_28 : decode cX1_spread 28 = .ok (.iconst 1, 1) := by decide +kernel
theorem dX1_spread_29 : decode cX1_spread 29 = .ok (.ireturn, 1) := by decide +kernel
theorem dX1_spreadDue_0 : decode cX1_spreadDue 0 = .ok (.iconst 0, 1) := by decide +kernel
theorem dX1_spreadDue_1 : decode cX1_spreadDue 1 = .ok (.istore_n 1, 1) := by decide +kernel
theorem dX1_spreadDue_2 : decode cX1_spreadDue 2 = .ok (.iload_n 1, 1) := by decide +kernel
theorem dX1_spreadDue_3 : decode cX1_spreadDue 3 = .ok (.aload_n 0, 1) := by decide +kernel
theorem dX1_spreadDue_4 : decode cX1_spreadDue 4 = .ok (.getfield 24, 3) := by decide +kernel
theorem dX1_spreadDue_7 : decode cX1_spreadDue 7 = .ok (.if_icmp .ge 36, 3) := by decide +kernel
theorem dX1_spreadDue_10 : decode cX1_spreadDue 10 = .ok (.aload_n 0, 1) := by decide +kernel
theorem dX1_spreadDue_11 : decode cX1_spreadDue 11 = .ok (.iload_n 1, 1) := by decide +kernel
theorem dX1_spreadDue_12 : decode cX1_spreadDue 12 = .ok (.invokevirtual 66, 3) := by decide +kernel
theorem dX1_spreadDue_15 : decode cX1_spreadDue 15 = .ok (.astore_n 2, 1) := by decide +kernel
theorem dX1_spreadDue_16 : decode cX1_spreadDue 16 = .ok (.aload_n 2, 1) := by decide +kernel
theorem dX1_spreadDue_17 : decode cX1_spreadDue 17 = .ok (.ifnull 20, 3) := by decide +kernel
theorem dX1_spreadDue_20 : decode cX1_spreadDue 20 = .ok (.aload_n 2, 1) := by decide +kernel
theorem dX1_spreadDue_21 : decode cX1_spreadDue 21 = .ok (.getfield 137, 3) := by decide +kernel
theorem dX1_spreadDue_24 : decode cX1_spreadDue 24 = .ok (.aload_n 2, 1) := by decide +kernel
theorem dX1_spreadDue_25 : decode cX1_spreadDue 25 = .ok (.getfield 156, 3) := by decide +kernel
theorem dX1_spreadDue_28 : decode cX1_spreadDue 28 = .ok (.if_icmp .lt 9, 3) := by decide +kernel
theorem dX1_spreadDue_31 : decode cX1_spreadDue 31 = .ok (.aload_n 0, 1) := by decide +kernel
theorem dX1_spreadDue_32 : decode cX1_spreadDue 32 = .ok (.aload_n 2, 1) := by decide +kernel
theorem dX1_spreadDue_33 : decode cX1_spreadDue 33 = .ok (.invokevirtual 159, 3) := by decide +kernel
theorem dX1_spreadDue_36 : decode cX1_spreadDue 36 = .ok (.pop, 1) := by decide +kernel
theorem dX1_spreadDue_37 : decode cX1_spreadDue 37 = .ok (.iinc 1 1, 3) := by decide +kernel
theorem dX1_spreadDue_40 : decode cX1_spreadDue 40 = .ok (.goto (-38), 3) := by decide +kernel
theorem dX1_spreadDue_43 : decode cX1_spreadDue 43 = .ok (.return_, 1) := by decide +kernel
theorem dX1_adopt_0 : decode cX1_adopt 0 = .ok (.aload_n 0, 1) := by decide +kernel
theorem dX1_adopt_1 : decode cX1_adopt 1 = .ok (.getfield 12, 3) := by decide +kernel
theorem dX1_adopt_4 : decode cX1_adopt 4 = .ok (.iload_n 1, 1) := by decide +kernel
theorem dX1_adopt_5 : decode cX1_adopt 5 = .ok (.invokevirtual 163, 3) := by decide +kernel
theorem dX1_adopt_8 : decode cX1_adopt 8 = .ok (.ifCond .ne 5, 3) := by decide +kernel
theorem dX1_adopt_11 : decode cX1_adopt 11 = .ok (.iconst 0, 1) := by decide +kernel
theorem dX1_adopt_12 : decode cX1_adopt 12 = .ok (.ireturn, 1) := by decide +kernel
theorem dX1_adopt_13 : decode cX1_adopt 13 = .ok (.aload_n 0, 1) := by decide +kernel
theorem dX1_adopt_14 : decode cX1_adopt 14 = .ok (.getfield 12, 3) := by decide +kernel
theorem dX1_adopt_17 : decode cX1_adopt 17 = .ok (.iload_n 1, 1) := by decide +kernel
theorem dX1_adopt_18 : decode cX1_adopt 18 = .ok (.putfield 87, 3) := by decide +kernel
theorem dX1_adopt_21 : decode cX1_adopt 21 = .ok (.iconst 0, 1) := by decide +kernel
theorem dX1_adopt_22 : decode cX1_adopt 22 = .ok (.istore_n 2, 1) := by decide +kernel
theorem dX1_adopt_23 : decode cX1_adopt 23 = .ok (.iload_n 2, 1) := by decide +kernel
theorem dX1_adopt_24 : decode cX1_adopt 24 = .ok (.aload_n 0, 1) := by decide +kernel
theorem dX1_adopt_25 : decode cX1_adopt 25 = .ok (.getfield 24, 3) := by decide +kernel
theorem dX1_adopt_28 : decode cX1_adopt 28 = .ok (.if_icmp .ge 30, 3) := by decide +kernel
theorem dX1_adopt_31 : decode cX1_adopt 31 = .ok (.aload_n 0, 1) := by decide +kernel
theorem dX1_adopt_32 : decode cX1_adopt 32 = .ok (.iload_n 2, 1) := by decide +kernel
theorem dX1_adopt_33 : decode cX1_adopt 33 = .ok (.invokevirtual 66, 3) := by decide +kernel
theorem dX1_adopt_36 : decode cX1_adopt 36 = .ok (.astore_n 3, 1) := by decide +kernel
theorem dX1_adopt_37 : decode cX1_adopt 37 = .ok (.aload_n 3, 1) := by decide +kernel
theorem dX1_adopt_38 : decode cX1_adopt 38 = .ok (.ifnull 14, 3) := by decide +kernel
theorem dX1_adopt_41 : decode cX1_adopt 41 = .ok (.aload_n 0, 1) := by decide +kernel
theorem dX1_adopt_42 : decode cX1_adopt 42 = .ok (.aload_n 3, 1) := by decide +kernel
theorem dX1_adopt_43 : decode cX1_adopt 43 = .ok (.invokevirtual 166, 3) := by decide +kernel
theorem dX1_adopt_46 : decode cX1_adopt 46 = .ok (.aload_n 0, 1) := by decide +kernel
theorem dX1_adopt_47 : decode cX1_adopt 47 = .ok (.aload_n 3, 1) := by decide +kernel
theorem dX1_adopt_48 : decode cX1_adopt 48 = .ok (.invokevirtual 159, 3) := by decide +kernel
theorem dX1_adopt_51 : decode cX1_adopt 51 = .ok (.pop, 1) := by decide +kernel
theorem dX1_adopt_52 : decode cX1_adopt 52 = .ok (.iinc 2 1, 3) := by decide +kernel
theorem dX1_adopt_55 : decode cX1_adopt 55 = .ok (.goto (-32), 3) := by decide +kernel
theorem dX1_adopt_58 : decode cX1_adopt 58 = .ok (.iconst 1, 1) := by decide +kernel
theorem dX1_adopt_59 : decode cX1_adopt 59 = .ok (.ireturn, 1) := by decide +kernel
theorem dX1_rebuild_0 : decode cX1_rebuild 0 = .ok (.aload_n 1, 1) := by decide +kernel
theorem dX1_rebuild_1 : decode cX1_rebuild 1 = .ok (.invokevirtual 169, 3) := by decide +kernel
theorem dX1_rebuild_4 : decode cX1_rebuild 4 = .ok (.aload_n 1, 1) := by decide +kernel
theorem dX1_rebuild_5 : decode cX1_rebuild 5 = .ok (.getfield 74, 3) := by decide +kernel
theorem dX1_rebuild_8 : decode cX1_rebuild 8 = .ok (.iconst 1, 1) := by decide +kernel
theorem dX1_rebuild_9 : decode cX1_rebuild 9 = .ok (.isub, 1) := by decide +kernel
theorem dX1_rebuild_10 : decode cX1_rebuild 10 = .ok (.istore_n 2, 1) := by decide +kernel
theorem dX1_rebuild_11 : decode cX1_rebuild 11 = .ok (.iload_n 2, 1) := by decide +kernel
theorem dX1_rebuild_12 : decode cX1_rebuild 12 = .ok (.ifCond .lt 20, 3) := by decide +kernel
theorem dX1_rebuild_15 : decode cX1_rebuild 15 = .ok (.aload_n 0, 1) := by decide +kernel
theorem dX1_rebuild_16 : decode cX1_rebuild 16 = .ok (.aload_n 1, 1) := by decide +kernel
theorem dX1_rebuild_17 : decode cX1_rebuild 17 = .ok (.aload_n 1, 1) := by decide +kernel
theorem dX1_rebuild_18 : decode cX1_rebuild 18 = .ok (.iload_n 2, 1) := by decide +kernel
theorem dX1_rebuild_19 : decode cX1_rebuild 19 = .ok (.invokevirtual 98, 3) := by decide +kernel
theorem dX1_rebuild_22 : decode cX1_rebuild 22 = .ok (.iconst 1, 1) := by decide +kernel
theorem dX1_rebuild_23 : decode cX1_rebuild 23 = .ok (.invokevirtual 133, 3) := by decide +kernel
theorem dX1_rebuild_26 : decode cX1_rebuild 26 = .ok (.iinc 2 (-1), 3) := by decide +kernel
theorem dX1_rebuild_29 : decode cX1_rebuild 29 = .ok (.goto (-18), 3) := by decide +kernel
theorem dX1_rebuild_32 : decode cX1_rebuild 32 = .ok (.return_, 1) := by decide +kernel
theorem dX1_servesWell_0 : decode cX1_servesWell 0 = .ok (.iconst 0, 1) := by decide +kernel
theorem dX1_servesWell_1 : decode cX1_servesWell 1 = .ok (.istore 4, 2) := by decide +kernel
theorem dX1_servesWell_3 : decode cX1_servesWell 3 = .ok (.iload 4, 2) := by decide +kernel
theorem dX1_servesWell_5 : decode cX1_servesWell 5 = .ok (.aload_n 0, 1) := by decide +kernel
theorem dX1_servesWell_6 : decode cX1_servesWell 6 = .ok (.getfield 24, 3) := by decide +kernel
theorem dX1_servesWell_9 : decode cX1_servesWell 9 = .ok (.if_icmp .ge 64, 3) := by decide +kernel
theorem dX1_servesWell_12 : decode cX1_servesWell 12 = .ok (.aload_n 0, 1) := by decide +kernel
theorem dX1_servesWell_13 : decode cX1_servesWell 13 = .ok (.iload 4, 2) := by decide +kernel
theorem dX1_servesWell_15 : decode cX1_servesWell 15 = .ok (.invokevirtual 66, 3) := by decide +kernel
theorem dX1_servesWell_18 : decode cX1_servesWell 18 = .ok (.astore 5, 2) := by decide +kernel
theorem dX1_servesWell_20 : decode cX1_servesWell 20 = .ok (.iload_n 3, 1) := by decide +kernel
theorem dX1_servesWell_21 : decode cX1_servesWell 21 = .ok (.iload 4, 2) := by decide +kernel
theorem dX1_servesWell_23 : decode cX1_servesWell 23 = .ok (.ishr, 1) := by decide +kernel
theorem dX1_servesWell_24 : decode cX1_servesWell 24 = .ok (.iconst 1, 1) := by decide +kernel
theorem dX1_servesWell_25 : decode cX1_servesWell 25 = .ok (.iand, 1) := by decide +kernel
theorem dX1_servesWell_26 : decode cX1_servesWell 26 = .ok (.iconst 1, 1) := by decide +kernel
theorem dX1_servesWell_27 : decode cX1_servesWell 27 = .ok (.if_icmp .ne 7, 3) := by decide +kernel
theorem dX1_servesWell_30 : decode cX1_servesWell 30 = .ok (.iconst 1, 1) := by decide +kernel
theorem dX1_servesWell_31 : decode cX1_servesWell 31 = .ok (.goto 4, 3) := by decide +kernel
theorem dX1_servesWell_34 : decode cX1_servesWell 34 = .ok (.iconst 2, 1) := by decide +kernel
theorem dX1_servesWell_35 : decode cX1_servesWell 35 = .ok (.istore 6, 2) := by decide +kernel
theorem dX1_servesWell_37 : decode cX1_servesWell 37 = .ok (.iload 4, 2) := by decide +kernel
theorem dX1_servesWell_39 : decode cX1_servesWell 39 = .ok (.iload_n 1, 1) := by decide +kernel
theorem dX1_servesWell_40 : decode cX1_servesWell 40 = .ok (.if_icmp .eq 27, 3) := by decide +kernel
theorem dX1_servesWell_43 : decode cX1_servesWell 43 = .ok (.aload 5, 2) := by decide +kernel
theorem dX1_servesWell_45 : decode cX1_servesWell 45 = .ok (.ifnull 22, 3) := by decide +kernel
theorem dX1_servesWell_48 : decode cX1_servesWell 48 = .ok (.aload_n 0, 1) := by decide +kernel
theorem dX1_servesWell_49 : decode cX1_servesWell 49 = .ok (.aload 5, 2) := by decide +kernel
theorem dX1_servesWell_51 : decode cX1_servesWell 51 = .ok (.iload 6, 2) := by decide +kernel
theorem dX1_servesWell_53 : decode cX1_servesWell 53 = .ok (.iload_n 2, 1) := by decide +kernel
theorem dX1_servesWell_54 : decode cX1_servesWell 54 = .ok (.invokevirtual 172, 3) := by decide +kernel
theorem dX1_servesWell_57 : decode cX1_servesWell 57 = .ok (.ifCond .eq 10, 3) := by decide +kernel
theorem dX1_servesWell_60 : decode cX1_servesWell 60 = .ok (.aload 5, 2) := by decide +kernel
theorem dX1_servesWell_62 : decode cX1_servesWell 62 = .ok (.iload_n 2, 1) := by decide +kernel
theorem dX1_servesWell_63 : decode cX1_servesWell 63 = .ok (.invokevirtual 77, 3) := by decide +kernel
theorem dX1_servesWell_66 : decode cX1_servesWell 66 = .ok (.ireturn, 1) := by decide +kernel
theorem dX1_servesWell_67 : decode cX1_servesWell 67 = .ok (.iinc 4 1, 3) := by decide +kernel
theorem dX1_servesWell_70 : decode cX1_servesWell 70 = .ok (.goto (-67), 3) := by decide +kernel
theorem dX1_servesWell_73 : decode cX1_servesWell 73 = .ok (.aload_n 0, 1) := by decide +kernel
theorem dX1_servesWell_74 : decode cX1_servesWell 74 = .ok (.iload_n 2, 1) := by decide +kernel
theorem dX1_servesWell_75 : decode cX1_servesWell 75 = .ok (.invokevirtual 176, 3) := by decide +kernel
theorem dX1_servesWell_78 : decode cX1_servesWell 78 = .ok (.ifCond .ne 7, 3) := by decide +kernel
theorem dX1_servesWell_81 : decode cX1_servesWell 81 = .ok (.iconst 1, 1) := by decide +kernel
theorem dX1_servesWell_82 : decode cX1_servesWell 82 = .ok (.goto 4, 3) := by decide +kernel
theorem dX1_servesWell_85 : decode cX1_servesWell 85 = .ok (.iconst 0, 1) := by decide +kernel
theorem dX1_servesWell_86 : decode cX1_servesWell 86 = .ok (.ireturn, 1) := by decide +kernel
theorem dX2_init_0 : decode cX2_init 0 = .ok (.aload_n 0, 1) := by decide +kernel
theorem dX2_init_1 : decode cX2_init 1 = .ok (.invokespecial 3, 3) := by decide +kernel
theorem dX2_init_4 : decode cX2_init 4 = .ok (.aload_n 0, 1) := by decide +kernel
theorem dX2_init_5 : decode cX2_init 5 = .ok (.iconst 0, 1) := by decide +kernel
theorem dX2_init_6 : decode cX2_init 6 = .ok (.putfield 9, 3) := by decide +kernel
theorem dX2_init_9 : decode cX2_init 9 = .ok (.aload_n 0, 1) := by decide +kernel
theorem dX2_init_10 : decode cX2_init 10 = .ok (.iconst 5, 1) := by decide +kernel
theorem dX2_init_11 : decode cX2_init 11 = .ok (.newarray .int, 2) := by decide +kernel
theorem dX2_init_13 : decode cX2_init 13 = .ok (.putfield 15, 3) := by decide +kernel
theorem dX2_init_16 : decode cX2_init 16 = .ok (.return_, 1) := by decide +kernel
theorem dX2_take_0 : decode cX2_take 0 = .ok (.aload_n 0, 1) := by decide +kernel
theorem dX2_take_1 : decode cX2_take 1 = .ok (.aload_n 1, 1) := by decide +kernel
theorem dX2_take_2 : decode cX2_take 2 = .ok (.getfield 9, 3) := by decide +kernel
theorem dX2_take_5 : decode cX2_take 5 = .ok (.putfield 9, 3) := by decide +kernel
theorem dX2_take_8 : decode cX2_take 8 = .ok (.aload_n 1, 1) := by decide +kernel
theorem dX2_take_9 : decode cX2_take 9 = .ok (.getfield 15, 3) := by decide +kernel
theorem dX2_take_12 : decode cX2_take 12 = .ok (.aload_n 0, 1) := by decide +kernel
theorem dX2_take_13 : decode cX2_take 13 = .ok (.getfield 15, 3) := by decide +kernel
theorem dX2_take_16 : decode cX2_take 16 = .ok (.invokestatic 19, 3) := by decide +kernel
theorem dX2_take_19 : decode cX2_take 19 = .ok (.return_, 1) := by decide +kernel
theorem dX2_pageAt_0 : decode cX2_pageAt 0 = .ok (.iload_n 1, 1) := by decide +kernel
theorem dX2_pageAt_1 : decode cX2_pageAt 1 = .ok (.ifCond .lt 29, 3) := by decide +kernel
theorem dX2_pageAt_4 : decode cX2_pageAt 4 = .ok (.iload_n 1, 1) := by decide +kernel
theorem dX2_pageAt_5 : decode cX2_pageAt 5 = .ok (.aload_n 0, 1) := by decide +kernel
theorem dX2_pageAt_6 : decode cX2_pageAt 6 = .ok (.getfield 9, 3) := by decide +kernel
theorem dX2_pageAt_9 : decode cX2_pageAt 9 = .ok (.if_icmp .ge 21, 3) := by decide +kernel
theorem dX2_pageAt_12 : decode cX2_pageAt 12 = .ok (.iload_n 1, 1) := by decide +kernel
theorem dX2_pageAt_13 : decode cX2_pageAt 13 = .ok (.aload_n 0, 1) := by decide +kernel
theorem dX2_pageAt_14 : decode cX2_pageAt 14 = .ok (.getfield 15, 3) := by decide +kernel
theorem dX2_pageAt_17 : decode cX2_pageAt 17 = .ok (.arraylength, 1) := by decide +kernel
theorem dX2_pageAt_18 : decode cX2_pageAt 18 = .ok (.if_icmp .ge 12, 3) := by decide +kernel
theorem dX2_pageAt_21 : decode cX2_pageAt 21 = .ok (.aload_n 0, 1) := by decide +kernel
theorem dX2_pageAt_22 : decode cX2_pageAt 22 = .ok (.getfield 15, 3) := by decide +kernel
theorem dX2_pageAt_25 : decode cX2_pageAt 25 = .ok (.iload_n 1, 1) := by decide +kernel
theorem dX2_pageAt_26 : decode cX2_pageAt 26 = .ok (.iaload, 1) := by decide +kernel
theorem dX2_pageAt_27 : decode cX2_pageAt 27 = .ok (.goto 5, 3) := by decide +kernel
theorem dX2_pageAt_30 : decode cX2_pageAt 30 = .ok (.bipush (-9), 2) := by decide +kernel
theorem dX2_pageAt_32 : decode cX2_pageAt 32 = .ok (.ireturn, 1) := by decide +kernel
theorem dX2_begin_0 : decode cX2_begin 0 = .ok (.aload_n 0, 1) := by decide +kernel
theorem dX2_begin_1 : decode cX2_begin 1 = .ok (.iconst 0, 1) := by decide +kernel
theorem dX2_begin_2 : decode cX2_begin 2 = .ok (.putfield 9, 3) := by decide +kernel
theorem dX2_begin_5 : decode cX2_begin 5 = .ok (.iconst 0, 1) := by decide +kernel
theorem dX2_begin_6 : decode cX2_begin 6 = .ok (.istore_n 2, 1) := by decide +kernel
theorem dX2_begin_7 : decode cX2_begin 7 = .ok (.iload_n 2, 1) := by decide +kernel
theorem dX2_begin_8 : decode cX2_begin 8 = .ok (.bipush 32, 2) := by decide +kernel
theorem dX2_begin_10 : decode cX2_begin 10 = .ok (.if_icmp .ge 50, 3) := by decide +kernel
theorem dX2_begin_13 : decode cX2_begin 13 = .ok (.iload_n 1, 1) := by decide +kernel
theorem dX2_begin_14 : decode cX2_begin 14 = .ok (.iload_n 2, 1) := by decide +kernel
theorem dX2_begin_15 : decode cX2_begin 15 = .ok (.ishr, 1) := by decide +kernel
theorem dX2_begin_16 : decode cX2_begin 16 = .ok (.iconst 1, 1) := by decide +kernel
theorem dX2_begin_17 : decode cX2_begin 17 = .ok (.iand, 1) := by decide +kernel
theorem dX2_begin_18 : decode cX2_begin 18 = .ok (.iconst 1, 1) := by decide +kernel
theorem dX2_begin_19 : decode cX2_begin 19 = .ok (.if_icmp .ne 35, 3) := by decide +kernel
theorem dX2_begin_22 : decode cX2_begin 22 = .ok (.aload_n 0, 1) := by decide +kernel
theorem dX2_begin_23 : decode cX2_begin 23 = .ok (.getfield 9, 3) := by decide +kernel
theorem dX2_begin_26 : decode cX2_begin 26 = .ok (.aload_n 0, 1) := by decide +kernel
theorem dX2_begin_27 : decode cX2_begin 27 = .ok (.getfield 15, 3) := by decide +kernel
theorem dX2_begin_30 : decode cX2_begin 30 = .ok (.arraylength, 1) := by decide +kernel
theorem dX2_begin_31 : decode cX2_begin 31 = .ok (.if_icmp .ge 23, 3) := by decide +kernel
theorem dX2_begin_34 : decode cX2_begin 34 = .ok (.aload_n 0, 1) := by decide +kernel
theorem dX2_begin_35 : decode cX2_begin 35 = .ok (.getfield 15, 3) := by decide +kernel
theorem dX2_begin_38 : decode cX2_begin 38 = .ok (.aload_n 0, 1) := by decide +kernel
theorem dX2_begin_39 : decode cX2_begin 39 = .ok (.getfield 9, 3) := by decide +kernel
theorem dX2_begin_42 : decode cX2_begin 42 = .ok (.iload_n 2, 1) := by decide +kernel
theorem dX2_begin_43 : decode cX2_begin 43 = .ok (.iastore, 1) := by decide +kernel
theorem dX2_begin_44 : decode cX2_begin 44 = .ok (.aload_n 0, 1) := by decide +kernel
theorem dX2_begin_45 : decode cX2_begin 45 = .ok (.dup, 1) := by decide +kernel
theorem dX2_begin_46 : decode cX2_begin 46 = .ok (.getfield 9, 3) := by decide +kernel
theorem dX2_begin_49 : decode cX2_begin 49 = .ok (.iconst 1, 1) := by decide +kernel
theorem dX2_begin_50 : decode cX2_begin 50 = .ok (.iadd, 1) := by decide +kernel
theorem dX2_begin_51 : decode cX2_begin 51 = .ok (.putfield 9, 3) := by decide +kernel
theorem dX2_begin_54 : decode cX2_begin 54 = .ok (.iinc 2 1, 3) := by decide +kernel
theorem dX2_begin_57 : decode cX2_begin 57 = .ok (.goto (-50), 3) := by decide +kernel
theorem dX2_begin_60 : decode cX2_begin 60 = .ok (.return_, 1) := by decide +kernel
theorem dX2_advance_0 : decode cX2_advance 0 = .ok (.aload_n 0, 1) := by decide +kernel
theorem dX2_advance_1 : decode cX2_advance 1 = .ok (.getfield 9, 3) := by decide +kernel
theorem dX2_advance_4 : decode cX2_advance 4 = .ok (.iconst 2, 1) := by decide +kernel
theorem dX2_advance_5 : decode cX2_advance 5 = .ok (.isub, 1) := by decide +kernel
theorem dX2_advance_6 : decode cX2_advance 6 = .ok (.istore_n 1, 1) := by decide +kernel
theorem dX2_advance_7 : decode cX2_advance 7 = .ok (.iload_n 1, 1) := by decide +kernel
theorem dX2_advance_8 : decode cX2_advance 8 = .ok (.ifCond .lt 24, 3) := by decide +kernel
theorem dX2_advance_11 : decode cX2_advance 11 = .ok (.aload_n 0, 1) := by decide +kernel
theorem dX2_advance_12 : decode cX2_advance 12 = .ok (.iload_n 1, 1) := by decide +kernel
theorem dX2_advance_13 : decode cX2_advance 13 = .ok (.invokevirtual 23, 3) := by decide +kernel
theorem dX2_advance_16 : decode cX2_advance 16 = .ok (.aload_n 0, 1) := by decide +kernel
theorem dX2_advance_17 : decode cX2_advance 17 = .ok (.iload_n 1, 1) := by decide +kernel
theorem dX2_advance_18 : decode cX2_advance 18 = .ok (.iconst 1, 1) := by decide +kernel
theorem dX2_advance_19 : decode cX2_advance 19 = .ok (.iadd, 1) := by decide +kernel
theorem dX2_advance_20 : decode cX2_advance 20 = .ok (.invokevirtual 23, 3) := by decide +kernel
theorem dX2_advance_23 : decode cX2_advance 23 = .ok (.if_icmp .le 9, 3) := by decide +kernel
theorem dX2_advance_26 : decode cX2_advance 26 = .ok (.iinc 1 (-1), 3) := by decide +kernel
theorem dX2_advance_29 : decode cX2_advance 29 = .ok (.goto (-22), 3) := by decide +kernel
theorem dX2_advance_32 : decode cX2_advance 32 = .ok (.iload_n 1, 1) := by decide +kernel
theorem dX2_advance_33 : decode cX2_advance 33 = .ok (.ifCond .ge 5, 3) := by decide +kernel
theorem dX2_advance_36 : decode cX2_advance 36 = .ok (.iconst 0, 1) := by decide +kernel
theorem dX2_advance_37 : decode cX2_advance 37 = .ok (.ireturn, 1) := by decide +kernel
theorem dX2_advance_38 : decode cX2_advance 38 = .ok (.aload_n 0, 1) := by decide +kernel
theorem dX2_advance_39 : decode cX2_advance 39 = .ok (.getfield 9, 3) := by decide +kernel
theorem dX2_advance_42 : decode cX2_advance 42 = .ok (.iconst 1, 1) := by decide +kernel
theorem dX2_advance_43 : decode cX2_advance 43 = .ok (.isub, 1) := by decide +kernel
theorem dX2_advance_44 : decode cX2_advance 44 = .ok (.istore_n 2, 1) := by decide +kernel
theorem dX2_advance_45 : decode cX2_advance 45 = .ok (.iload_n 2, 1) := by decide +kernel
theorem dX2_advance_46 : decode cX2_advance 46 = .ok (.iload_n 1, 1) := by decide +kernel
theorem dX2_advance_47 : decode cX2_advance 47 = .ok (.if_icmp .le 22, 3) := by decide +kernel
theorem dX2_advance_50 : decode cX2_advance 50 = .ok (.aload_n 0, 1) := by decide +kernel
theorem dX2_advance_51 : decode cX2_advance 51 = .ok (.iload_n 2, 1) := by decide +kernel
theorem dX2_advance_52 : decode cX2_advance 52 = .ok (.invokevirtual 23, 3) := by decide +kernel
theorem dX2_advance_55 : decode cX2_advance 55 = .ok (.aload_n 0, 1) := by decide +kernel
theorem dX2_advance_56 : decode cX2_advance 56 = .ok (.iload_n 1, 1) := by decide +kernel
theorem dX2_advance_57 : decode cX2_advance 57 = .ok (.invokevirtual 23, 3) := by decide +kernel
theorem dX2_advance_60 : decode cX2_advance 60 = .ok (.if_icmp .ge 9, 3) := by decide +kernel
theorem dX2_advance_63 : decode cX2_advance 63 = .ok (.iinc 2 (-1), 3) := by decide +kernel
theorem dX2_advance_66 : decode cX2_advance 66 = .ok (.goto (-21), 3) := by decide +kernel
theorem dX2_advance_69 : decode cX2_advance 69 = .ok (.aload_n 0, 1) := by decide +kernel
theorem dX2_advance_70 : decode cX2_advance 70 = .ok (.iload_n 1, 1) := by decide +kernel
theorem dX2_advance_71 : decode cX2_advance 71 = .ok (.iload_n 2, 1) := by decide +kernel
theorem dX2_advance_72 : decode cX2_advance 72 = .ok (.invokevirtual 27, 3) := by decide +kernel
theorem dX2_advance_75 : decode cX2_advance 75 = .ok (.aload_n 0, 1) := by decide +kernel
theorem dX2_advance_76 : decode cX2_advance 76 = .ok (.getfield 9, 3) := by decide +kernel
theorem dX2_advance_79 : decode cX2_advance 79 = .ok (.iconst 1, 1) := by decide +kernel
theorem dX2_advance_80 : decode cX2_advance 80 = .ok (.isub, 1) := by decide +kernel
theorem dX2_advance_81 : decode cX2_advance 81 = .ok (.istore_n 3, 1) := by decide +kernel
theorem dX2_advance_82 : decode cX2_advance 82 = .ok (.iload_n 1, 1) := by decide +kernel
theorem dX2_advance_83 : decode cX2_advance 83 = .ok (.iconst 1, 1) := by decide +kernel
theorem dX2_advance_84 : decode cX2_advance 84 = .ok (.iadd, 1) := by decide +kernel
theorem dX2_advance_85 : decode cX2_advance 85 = .ok (.istore 4, 2) := by decide +kernel
theorem dX2_advance_87 : decode cX2_advance 87 = .ok (.iload 4, 2) := by decide +kernel
theorem dX2_advance_89 : decode cX2_advance 89 = .ok (.iload_n 3, 1) := by decide +kernel
theorem dX2_advance_90 : decode cX2_advance 90 = .ok (.if_icmp .ge 19, 3) := by decide +kernel
theorem dX2_advance_93 : decode cX2_advance 93 = .ok (.aload_n 0, 1) := by decide +kernel
theorem dX2_advance_94 : decode cX2_advance 94 = .ok (.iload 4, 2) := by decide +kernel
theorem dX2_advance_96 : decode cX2_advance 96 = .ok (.iload_n 3, 1) := by decide +kernel
theorem dX2_advance_97 : decode cX2_advance 97 = .ok (.invokevirtual 27, 3) := by decide +kernel
theorem dX2_advance_100 : decode cX2_advance 100 = .ok (.iinc 3 (-1), 3) := by decide +kernel
theorem dX2_advance_103 : decode cX2_advance 103 = .ok (.iinc 4 1, 3) := by decide +kernel
theorem dX2_advance_106 : decode cX2_advance 106 = .ok (.goto (-19), 3) := by decide +kernel
theorem dX2_advance_109 : decode cX2_advance 109 = .ok (.iconst 1, 1) := by decide +kernel
theorem dX2_advance_110 : decode cX2_advance 110 = .ok (.ireturn, 1) := by decide +kernel
theorem dX2_swap_0 : decode cX2_swap 0 = .ok (.iload_n 1, 1) := by decide +kernel
theorem dX2_swap_1 : decode cX2_swap 1 = .ok (.ifCond .lt 51, 3) := by decide +kernel
theorem dX2_swap_4 : decode cX2_swap 4 = .ok (.iload_n 1, 1) := by decide +kernel
theorem dX2_swap_5 : decode cX2_swap 5 = .ok (.aload_n 0, 1) := by decide +kernel
theorem dX2_swap_6 : decode cX2_swap 6 = .ok (.getfield 15, 3) := by decide +kernel
theorem dX2_swap_9 : decode cX2_swap 9 = .ok (.arraylength, 1) := by decide +kernel
theorem dX2_swap_10 : decode cX2_swap 10 = .ok (.if_icmp .ge 42, 3) := by decide +kernel
theorem dX2_swap_13 : decode cX2_swap 13 = .ok (.iload_n 2, 1) := by decide +kernel
theorem dX2_swap_14 : decode cX2_swap 14 = .ok (.ifCond .lt 38, 3) := by decide +kernel
theorem dX2_swap_17 : decode cX2_swap 17 = .ok (.iload_n 2, 1) := by decide +kernel
theorem dX2_swap_18 : decode cX2_swap 18 = .ok (.aload_n 0, 1) := by decide +kernel
theorem dX2_swap_19 : decode cX2_swap 19 = .ok (.getfield 15, 3) := by decide +kernel
theorem dX2_swap_22 : decode cX2_swap 22 = .ok (.arraylength, 1) := by decide +kernel
theorem dX2_swap_23 : decode cX2_swap 23 = .ok (.if_icmp .ge 29, 3) := by decide +kernel
theorem dX2_swap_26 : decode cX2_swap 26 = .ok (.aload_n 0, 1) := by decide +kernel
theorem dX2_swap_27 : decode cX2_swap 27 = .ok (.getfield 15, 3) := by decide +kernel
theorem dX2_swap_30 : decode cX2_swap 30 = .ok (.iload_n 1, 1) := by decide +kernel
theorem dX2_swap_31 : decode cX2_swap 31 = .ok (.iaload, 1) := by decide +kernel
theorem dX2_swap_32 : decode cX2_swap 32 = .ok (.istore_n 3, 1) := by decide +kernel
theorem dX2_swap_33 : decode cX2_swap 33 = .ok (.aload_n 0, 1) := by decide +kernel
theorem dX2_swap_34 : decode cX2_swap 34 = .ok (.getfield 15, 3) := by decide +kernel
theorem dX2_swap_37 : decode cX2_swap 37 = .ok (.iload_n 1, 1) := by decide +kernel
theorem dX2_swap_38 : decode cX2_swap 38 = .ok (.aload_n 0, 1) := by decide +kernel
theorem dX2_swap_39 : decode cX2_swap 39 = .ok (.getfield 15, 3) := by decide +kernel
theorem dX2_swap_42 : decode cX2_swap 42 = .ok (.iload_n 2, 1) := by decide +kernel
theorem dX2_swap_43 : decode cX2_swap 43 = .ok (.iaload, 1) := by decide +kernel
theorem dX2_swap_44 : decode cX2_swap 44 = .ok (.iastore, 1) := by decide +kernel
theorem dX2_swap_45 : decode cX2_swap 45 = .ok (.aload_n 0, 1) := by decide +kernel
theorem dX2_swap_46 : decode cX2_swap 46 = .ok (.getfield 15, 3) := by decide +kernel
theorem dX2_swap_49 : decode cX2_swap 49 = .ok (.iload_n 2, 1) := by decide +kernel
theorem dX2_swap_50 : decode cX2_swap 50 = .ok (.iload_n 3, 1) := by decide +kernel
theorem dX2_swap_51 : decode cX2_swap 51 = .ok (.iastore, 1) := by decide +kernel
theorem dX2_swap_52 : decode cX2_swap 52 = .ok (.return_, 1) := by decide +kernel
theorem dX3_init_0 : decode cX3_init 0 = .ok (.aload_n 0, 1) := by decide +kernel
theorem dX3_init_1 : decode cX3_init 1 = .ok (.invokespecial 3, 3) := by decide +kernel
theorem dX3_init_4 : decode cX3_init 4 = .ok (.aload_n 0, 1) := by decide +kernel
theorem dX3_init_5 : decode cX3_init 5 = .ok (.bipush 14, 2) := by decide +kernel
theorem dX3_init_7 : decode cX3_init 7 = .ok (.anewarray 9, 3) := by decide +kernel
theorem dX3_init_10 : decode cX3_init 10 = .ok (.putfield 11, 3) := by decide +kernel
theorem dX3_init_13 : decode cX3_init 13 = .ok (.aload_n 0, 1) := by decide +kernel
theorem dX3_init_14 : decode cX3_init 14 = .ok (.iconst 0, 1) := by decide +kernel
theorem dX3_init_15 : decode cX3_init 15 = .ok (.putfield 17, 3) := by decide +kernel
theorem dX3_init_18 : decode cX3_init 18 = .ok (.aload_n 0, 1) := by decide +kernel
theorem dX3_init_19 : decode cX3_init 19 = .ok (.iconst 0, 1) := by decide +kernel
theorem dX3_init_20 : decode cX3_init 20 = .ok (.putfield 21, 3) := by decide +kernel
theorem dX3_init_23 : decode cX3_init 23 = .ok (.iconst 0, 1) := by decide +kernel
theorem dX3_init_24 : decode cX3_init 24 = .ok (.istore_n 1, 1) := by decide +kernel
theorem dX3_init_25 : decode cX3_init 25 = .ok (.iload_n 1, 1) := by decide +kernel
theorem dX3_init_26 : decode cX3_init 26 = .ok (.aload_n 0, 1) := by decide +kernel
theorem dX3_init_27 : decode cX3_init 27 = .ok (.getfield 11, 3) := by decide +kernel
theorem dX3_init_30 : decode cX3_init 30 = .ok (.arraylength, 1) := by decide +kernel
theorem dX3_init_31 : decode cX3_init 31 = .ok (.if_icmp .ge 22, 3) := by decide +kernel
theorem dX3_init_34 : decode cX3_init 34 = .ok (.aload_n 0, 1) := by decide +kernel
theorem dX3_init_35 : decode cX3_init 35 = .ok (.getfield 11, 3) := by decide +kernel
theorem dX3_init_38 : decode cX3_init 38 = .ok (.iload_n 1, 1) := by decide +kernel
theorem dX3_init_39 : decode cX3_init 39 = .ok (.new 9, 3) := by decide +kernel
theorem dX3_init_42 : decode cX3_init 42 = .ok (.dup, 1) := by decide +kernel
theorem dX3_init_43 : decode cX3_init 43 = .ok (.invokespecial 24, 3) := by decide +kernel
theorem dX3_init_46 : decode cX3_init 46 = .ok (.aastore, 1) := by decide +kernel
theorem dX3_init_47 : decode cX3_init 47 = .ok (.iinc 1 1, 3) := by decide +kernel
theorem dX3_init_50 : decode cX3_init 50 = .ok (.goto (-25), 3) := by decide +kernel
theorem dX3_init_53 : decode cX3_init 53 = .ok (.return_, 1) := by decide +kernel
theorem dX3_forget_0 : decode cX3_forget 0 = .ok (.aload_n 0, 1) := by decide +kernel
theorem dX3_forget_1 : decode cX3_forget 1 = .ok (.iconst 0, 1) := by decide +kernel
theorem dX3_forget_2 : decode cX3_forget 2 = .ok (.putfield 21, 3) := by decide +kernel
theorem dX3_forget_5 : decode cX3_forget 5 = .ok (.return_, 1) := by decide +kernel
theorem dX3_record_0 : decode cX3_record 0 = .ok (.aload_n 0, 1) := by decide +kernel
theorem dX3_record_1 : decode cX3_record 1 = .ok (.getfield 11, 3) := by decide +kernel
theorem dX3_record_4 : decode cX3_record 4 = .ok (.aload_n 0, 1) := by decide +kernel
theorem dX3_record_5 : decode cX3_record 5 = .ok (.getfield 17, 3) := by decide +kernel
theorem dX3_record_8 : decode cX3_record 8 = .ok (.invokestatic 25, 3) := by decide +kernel
theorem dX3_record_11 : decode cX3_record 11 = .ok (.astore_n 2, 1) := by decide +kernel
theorem dX3_record_12 : decode cX3_record 12 = .ok (.aload_n 2, 1) := by decide +kernel
theorem dX3_record_13 : decode cX3_record 13 = .ok (.ifnull 8, 3) := by decide +kernel
theorem dX3_record_16 : decode cX3_record 16 = .ok (.aload_n 2, 1) := by decide +kernel
theorem dX3_record_17 : decode cX3_record 17 = .ok (.aload_n 1, 1) := by decide +kernel
theorem dX3_record_18 : decode cX3_record 18 = .ok (.invokevirtual 29, 3) := by decide +kernel
theorem dX3_record_21 : decode cX3_record 21 = .ok (.aload_n 0, 1) := by decide +kernel
theorem dX3_record_22 : decode cX3_record 22 = .ok (.aload_n 0, 1) := by decide +kernel
theorem dX3_record_23 : decode cX3_record 23 = .ok (.getfield 17, 3) := by decide +kernel
theorem dX3_record_26 : decode cX3_record 26 = .ok (.iconst 1, 1) := by decide +kernel
theorem dX3_record_27 : decode cX3_record 27 = .ok (.iadd, 1) := by decide +kernel
theorem dX3_record_28 : decode cX3_record 28 = .ok (.bipush 14, 2) := by decide +kernel
theorem dX3_record_30 : decode cX3_record 30 = .ok (.irem, 1) := by decide +kernel
theorem dX3_record_31 : decode cX3_record 31 = .ok (.putfield 17, 3) := by decide +kernel
theorem dX3_record_34 : decode cX3_record 34 = .ok (.aload_n 0, 1) := by decide +kernel
theorem dX3_record_35 : decode cX3_record 35 = .ok (.aload_n 0, 1) := by decide +kernel
theorem dX3_record_36 : decode cX3_record 36 = .ok (.getfield 21, 3) := by decide +kernel
theorem dX3_record_39 : decode cX3_record 39 = .ok (.iconst 1, 1) := by decide +kernel
theorem dX3_record_40 : decode cX3_record 40 = .ok (.iadd, 1) := by decide +kernel
theorem dX3_record_41 : decode cX3_record 41 = .ok (.bipush 14, 2) := by decide +kernel
theorem dX3_record_43 : decode cX3_record 43 = .ok (.invokestatic 33, 3) := by decide +kernel
theorem dX3_record_46 : decode cX3_record 46 = .ok (.putfield 21, 3) := by decide +kernel
theorem dX3_record_49 : decode cX3_record 49 = .ok (.return_, 1) := by decide +kernel
theorem dX3_restore_0 : decode cX3_restore 0 = .ok (.aload_n 0, 1) := by decide +kernel
theorem dX3_restore_1 : decode cX3_restore 1 = .ok (.getfield 17, 3) := by decide +kernel
theorem dX3_restore_4 : decode cX3_restore 4 = .ok (.bipush 14, 2) := by decide +kernel
theorem dX3_restore_6 : decode cX3_restore 6 = .ok (.iadd, 1) := by decide +kernel
theorem dX3_restore_7 : decode cX3_restore 7 = .ok (.iconst 1, 1) := by decide +kernel
theorem dX3_restore_8 : decode cX3_restore 8 = .ok (.isub, 1) := by decide +kernel
theorem dX3_restore_9 : decode cX3_restore 9 = .ok (.bipush 14, 2) := by decide +kernel
theorem dX3_restore_11 : decode cX3_restore 11 = .ok (.irem, 1) := by decide +kernel
theorem dX3_restore_12 : decode cX3_restore 12 = .ok (.istore_n 2, 1) := by decide +kernel
theorem dX3_restore_13 : decode cX3_restore 13 = .ok (.aload_n 0, 1) := by decide +kernel
theorem dX3_restore_14 : decode cX3_restore 14 = .ok (.getfield 11, 3) := by decide +kernel
theorem dX3_restore_17 : decode cX3_restore 17 = .ok (.iload_n 2, 1) := by decide +kernel
theorem dX3_restore_18 : decode cX3_restore 18 = .ok (.invokestatic 25, 3) := by decide +kernel
theorem dX3_restore_21 : decode cX3_restore 21 = .ok (.astore_n 3, 1) := by decide +kernel
theorem dX3_restore_22 : decode cX3_restore 22 = .ok (.aload_n 0, 1) := by decide +kernel
theorem dX3_restore_23 : decode cX3_restore 23 = .ok (.getfield 21, 3) := by decide +kernel
theorem dX3_restore_26 : decode cX3_restore 26 = .ok (.ifCond .le 7, 3) := by decide +kernel
theorem dX3_restore_29 : decode cX3_restore 29 = .ok (.aload_n 3, 1) := by decide +kernel
theorem dX3_restore_30 : decode cX3_restore 30 = .ok (.ifnonnull 5, 3) := by decide +kernel
theorem dX3_restore_33 : decode cX3_restore 33 = .ok (.iconst 0, 1) := by decide +kernel
theorem dX3_restore_34 : decode cX3_restore 34 = .ok (.ireturn, 1) := by decide +kernel
theorem dX3_restore_35 : decode cX3_restore 35 = .ok (.aload_n 1, 1) := by decide +kernel
theorem dX3_restore_36 : decode cX3_restore 36 = .ok (.aload_n 3, 1) := by decide +kernel
theorem dX3_restore_37 : decode cX3_restore 37 = .ok (.invokevirtual 29, 3) := by decide +kernel
theorem dX3_restore_40 : decode cX3_restore 40 = .ok (.aload_n 0, 1) := by decide +kernel
theorem dX3_restore_41 : decode cX3_restore 41 = .ok (.iload_n 2, 1) := by decide +kernel
theorem dX3_restore_42 : decode cX3_restore 42 = .ok (.putfield 17, 3) := by decide +kernel
theorem dX3_restore_45 : decode cX3_restore 45 = .ok (.aload_n 0, 1) := by decide +kernel
theorem dX3_restore_46 : decode cX3_restore 46 = .ok (.dup, 1) := by decide +kernel
theorem dX3_restore_47 : decode cX3_restore 47 = .ok (.getfield 21, 3) := by decide +kernel
theorem dX3_restore_50 : decode cX3_restore 50 = .ok (.iconst 1, 1) := by decide +kernel
theorem dX3_restore_51 : decode cX3_restore 51 = .ok (.isub, 1) := by decide +kernel
theorem dX3_restore_52 : decode cX3_restore 52 = .ok (.putfield 21, 3) := by decide +kernel
theorem dX3_restore_55 : decode cX3_restore 55 = .ok (.iconst 1, 1) := by decide +kernel
theorem dX3_restore_56 : decode cX3_restore 56 = .ok (.ireturn, 1) := by decide +kernel
theorem dX4_init_0 : decode cX4_init 0 = .ok (.aload_n 0, 1) := by decide +kernel
theorem dX4_init_1 : decode cX4_init 1 = .ok (.invokespecial 3, 3) := by decide +kernel
theorem dX4_init_4 : decode cX4_init 4 = .ok (.aload_n 0, 1) := by decide +kernel
theorem dX4_init_5 : decode cX4_init 5 = .ok (.iconst 0, 1) := by decide +kernel
theorem dX4_init_6 : decode cX4_init 6 = .ok (.putfield 9, 3) := by decide +kernel
theorem dX4_init_9 : decode cX4_init 9 = .ok (.aload_n 0, 1) := by decide +kernel
theorem dX4_init_10 : decode cX4_init 10 = .ok (.iconst 0, 1) := by decide +kernel
theorem dX4_init_11 : decode cX4_init 11 = .ok (.putfield 15, 3) := by decide +kernel
theorem dX4_init_14 : decode cX4_init 14 = .ok (.aload_n 0, 1) := by decide +kernel
theorem dX4_init_15 : decode cX4_init 15 = .ok (.iconst 0, 1) := by decide +kernel
theorem dX4_init_16 : decode cX4_init 16 = .ok (.putfield 18, 3) := by decide +kernel
theorem dX4_init_19 : decode cX4_init 19 = .ok (.aload_n 0, 1) := by decide +kernel
theorem dX4_init_20 : decode cX4_init 20 = .ok (.iconst 0, 1) := by decide +kernel
theorem dX4_init_21 : decode cX4_init 21 = .ok (.putfield 21, 3) := by decide +kernel
theorem dX4_init_24 : decode cX4_init 24 = .ok (.aload_n 0, 1) := by decide +kernel
theorem dX4_init_25 : decode cX4_init 25 = .ok (.iconst 0, 1) := by decide +kernel
theorem dX4_init_26 : decode cX4_init 26 = .ok (.putfield 24, 3) := by decide +kernel
theorem dX4_init_29 : decode cX4_init 29 = .ok (.aload_n 0, 1) := by decide +kernel
theorem dX4_init_30 : decode cX4_init 30 = .ok (.bipush 9, 2) := by decide +kernel
theorem dX4_init_32 : decode cX4_init 32 = .ok (.newarray .int, 2) := by decide +kernel
theorem dX4_init_34 : decode cX4_init 34 = .ok (.putfield 27, 3) := by decide +kernel
theorem dX4_init_37 : decode cX4_init 37 = .ok (.aload_n 0, 1) := by decide +kernel
theorem dX4_init_38 : decode cX4_init 38 = .ok (.bipush 16, 2) := by decide +kernel
theorem dX4_init_40 : decode cX4_init 40 = .ok (.newarray .int, 2) := by decide +kernel
theorem dX4_init_42 : decode cX4_init 42 = .ok (.putfield 31, 3) := by decide +kernel
theorem dX4_init_45 : decode cX4_init 45 = .ok (.return_, 1) := by decide +kernel
theorem dX4_take_0 : decode cX4_take 0 = .ok (.aload_n 0, 1) := by decide +kernel
theorem dX4_take_1 : decode cX4_take 1 = .ok (.aload_n 1, 1) := by decide +kernel
theorem dX4_take_2 : decode cX4_take 2 = .ok (.getfield 9, 3) := by decide +kernel
theorem dX4_take_5 : decode cX4_take 5 = .ok (.putfield 9, 3) := by decide +kernel
theorem dX4_take_8 : decode cX4_take 8 = .ok (.aload_n 0, 1) := by decide +kernel
theorem dX4_take_9 : decode cX4_take 9 = .ok (.aload_n 1, 1) := by decide +kernel
theorem dX4_take_10 : decode cX4_take 10 = .ok (.getfield 15, 3) := by decide +kernel
theorem dX4_take_13 : decode cX4_take 13 = .ok (.putfield 15, 3) := by decide +kernel
theorem dX4_take_16 : decode cX4_take 16 = .ok (.aload_n 0, 1) := by decide +kernel
theorem dX4_take_17 : decode cX4_take 17 = .ok (.aload_n 1, 1) := by decide +kernel
theorem dX4_take_18 : decode cX4_take 18 = .ok (.getfield 18, 3) := by decide +kernel
theorem dX4_take_21 : decode cX4_take 21 = .ok (.putfield 18, 3) := by decide +kernel
theorem dX4_take_24 : decode cX4_take 24 = .ok (.aload_n 0, 1) := by decide +kernel
theorem dX4_take_25 : decode cX4_take 25 = .ok (.aload_n 1, 1) := by decide +kernel
theorem dX4_take_26 : decode cX4_take 26 = .ok (.getfield 21, 3) := by decide +kernel
theorem dX4_take_29 : decode cX4_take 29 = .ok (.putfield 21, 3) := by decide +kernel
theorem dX4_take_32 : decode cX4_take 32 = .ok (.aload_n 0, 1) := by decide +kernel
theorem dX4_take_33 : decode cX4_take 33 = .ok (.aload_n 1, 1) := by decide +kernel
theorem dX4_take_34 : decode cX4_take 34 = .ok (.getfield 24, 3) := by decide +kernel
theorem dX4_take_37 : decode cX4_take 37 = .ok (.putfield 24, 3) := by decide +kernel
theorem dX4_take_40 : decode cX4_take 40 = .ok (.aload_n 1, 1) := by decide +kernel
theorem dX4_take_41 : decode cX4_take 41 = .ok (.getfield 27, 3) := by decide +kernel
theorem dX4_take_44 : decode cX4_take 44 = .ok (.aload_n 0, 1) := by decide +kernel
theorem dX4_take_45 : decode cX4_take 45 = .ok (.getfield 27, 3) := by decide +kernel
theorem dX4_take_48 : decode cX4_take 48 = .ok (.invokestatic 34, 3) := by decide +kernel
theorem dX4_take_51 : decode cX4_take 51 = .ok (.aload_n 1, 1) := by decide +kernel
theorem dX4_take_52 : decode cX4_take 52 = .ok (.getfield 31, 3) := by decide +kernel
theorem dX4_take_55 : decode cX4_take 55 = .ok (.aload_n 0, 1) := by decide +kernel
theorem dX4_take_56 : decode cX4_take 56 = .ok (.getfield 31, 3) := by decide +kernel
theorem dX4_take_59 : decode cX4_take 59 = .ok (.invokestatic 34, 3) := by decide +kernel
theorem dX4_take_62 : decode cX4_take 62 = .ok (.return_, 1) := by decide +kernel
theorem dX4_begin_0 : decode cX4_begin 0 = .ok (.aload_n 0, 1) := by decide +kernel
theorem dX4_begin_1 : decode cX4_begin 1 = .ok (.iload_n 1, 1) := by decide +kernel
theorem dX4_begin_2 : decode cX4_begin 2 = .ok (.putfield 9, 3) := by decide +kernel
theorem dX4_begin_5 : decode cX4_begin 5 = .ok (.aload_n 0, 1) := by decide +kernel
theorem dX4_begin_6 : decode cX4_begin 6 = .ok (.iload_n 2, 1) := by decide +kernel
theorem dX4_begin_7 : decode cX4_begin 7 = .ok (.putfield 15, 3) := by decide +kernel
theorem dX4_begin_10 : decode cX4_begin 10 = .ok (.aload_n 0, 1) := by decide +kernel
theorem dX4_begin_11 : decode cX4_begin 11 = .ok (.iconst 0, 1) := by decide +kernel
theorem dX4_begin_12 : decode cX4_begin 12 = .ok (.putfield 18, 3) := by decide +kernel
theorem dX4_begin_15 : decode cX4_begin 15 = .ok (.aload_n 0, 1) := by decide +kernel
theorem dX4_begin_16 : decode cX4_begin 16 = .ok (.iconst 0, 1) := by decide +kernel
theorem dX4_begin_17 : decode cX4_begin 17 = .ok (.putfield 21, 3) := by decide +kernel
theorem dX4_begin_20 : decode cX4_begin 20 = .ok (.aload_n 0, 1) := by decide +kernel
theorem dX4_begin_21 : decode cX4_begin 21 = .ok (.iconst 0, 1) := by decide +kernel
theorem dX4_begin_22 : decode cX4_begin 22 = .ok (.putfield 24, 3) := by decide +kernel
theorem dX4_begin_25 : decode cX4_begin 25 = .ok (.aload_n 0, 1) := by decide +kernel
theorem dX4_begin_26 : decode cX4_begin 26 = .ok (.invokevirtual 38, 3) := by decide +kernel
theorem dX4_begin_29 : decode cX4_begin 29 = .ok (.return_, 1) := by decide +kernel
theorem dX4_clearCounters_0 : decode cX4_clearCounters 0 = .ok (.iconst 0, 1) := by decide +kernel
theorem dX4_clearCounters_1 : decode cX4_clearCounters 1 = .ok (.istore_n 1, 1) := by decide +kernel
theorem dX4_clearCounters_2 : decode cX4_clearCounters 2 = .ok (.iload_n 1, 1) := by decide +kernel
theorem dX4_clearCounters_3 : decode cX4_clearCounters 3 = .ok (.aload_n 0, 1) := by decide +kernel
theorem dX4_clearCounters_4 : decode cX4_clearCounters 4 = .ok (.getfield 31, 3) := by decide +kernel
theorem dX4_clearCounters_7 : decode cX4_clearCounters 7 = .ok (.arraylength, 1) := by decide +kernel
theorem dX4_clearCounters_8 : decode cX4_clearCounters 8 = .ok (.if_icmp .ge 16, 3) := by decide +kernel
theorem dX4_clearCounters_11 : decode cX4_clearCounters 11 = .ok (.aload_n 0, 1) := by decide +kernel
theorem dX4_clearCounters_12 : decode cX4_clearCounters 12 = .ok (.getfield 31, 3) := by decide +kernel
theorem dX4_clearCounters_15 : decode cX4_clearCounters 15 = .ok (.iload_n 1, 1) := by decide +kernel
theorem dX4_clearCounters_16 : decode cX4_clearCounters 16 = .ok (.iconst 0, 1) := by decide +kernel
theorem dX4_clearCounters_17 : decode cX4_clearCounters 17 = .ok (.iastore, 1) := by decide +kernel
theorem dX4_clearCounters_18 : decode cX4_clearCounters 18 = .ok (.iinc 1 1, 3) := by decide +kernel
theorem dX4_clearCounters_21 : decode cX4_clearCounters 21 = .ok (.goto (-19), 3) := by decide +kernel
theorem dX4_clearCounters_24 : decode cX4_clearCounters 24 = .ok (.return_, 1) := by decide +kernel
theorem dX4_hasRoom_0 : decode cX4_hasRoom 0 = .ok (.aload_n 0, 1) := by decide +kernel
theorem dX4_hasRoom_1 : decode cX4_hasRoom 1 = .ok (.getfield 18, 3) := by decide +kernel
theorem dX4_hasRoom_4 : decode cX4_hasRoom 4 = .ok (.aload_n 0, 1) := by decide +kernel
theorem dX4_hasRoom_5 : decode cX4_hasRoom 5 = .ok (.getfield 9, 3) := by decide +kernel
theorem dX4_hasRoom_8 : decode cX4_hasRoom 8 = .ok (.if_icmp .ge 19, 3) := by decide +kernel
theorem dX4_hasRoom_11 : decode cX4_hasRoom 11 = .ok (.aload_n 0, 1) := by decide +kernel
theorem dX4_hasRoom_12 : decode cX4_hasRoom 12 = .ok (.getfield 18, 3) := by decide +kernel
theorem dX4_hasRoom_15 : decode cX4_hasRoom 15 = .ok (.aload_n 0, 1) := by decide +kernel
theorem dX4_hasRoom_16 : decode cX4_hasRoom 16 = .ok (.getfield 27, 3) := by decide +kernel
theorem dX4_hasRoom_19 : decode cX4_hasRoom 19 = .ok (.arraylength, 1) := by decide +kernel
theorem dX4_hasRoom_20 : decode cX4_hasRoom 20 = .ok (.if_icmp .ge 7, 3) := by decide +kernel
theorem dX4_hasRoom_23 : decode cX4_hasRoom 23 = .ok (.iconst 1, 1) := by decide +kernel
theorem dX4_hasRoom_24 : decode cX4_hasRoom 24 = .ok (.goto 4, 3) := by decide +kernel
theorem dX4_hasRoom_27 : decode cX4_hasRoom 27 = .ok (.iconst 0, 1) := by decide +kernel
theorem dX4_hasRoom_28 : decode cX4_hasRoom 28 = .ok (.ireturn, 1) := by decide +kernel
theorem dX4_pageAt_0 : decode cX4_pageAt 0 = .ok (.iload_n 1, 1) := by decide +kernel
theorem dX4_pageAt_1 : decode cX4_pageAt 1 = .ok (.ifCond .lt 29, 3) := by decide +kernel
theorem dX4_pageAt_4 : decode cX4_pageAt 4 = .ok (.iload_n 1, 1) := by decide +kernel
theorem dX4_pageAt_5 : decode cX4_pageAt 5 = .ok (.aload_n 0, 1) := by decide +kernel
theorem dX4_pageAt_6 : decode cX4_pageAt 6 = .ok (.getfield 18, 3) := by decide +kernel
theorem dX4_pageAt_9 : decode cX4_pageAt 9 = .ok (.if_icmp .ge 21, 3) := by decide +kernel
theorem dX4_pageAt_12 : decode cX4_pageAt 12 = .ok (.iload_n 1, 1) := by decide +kernel
theorem dX4_pageAt_13 : decode cX4_pageAt 13 = .ok (.aload_n 0, 1) := by decide +kernel
theorem dX4_pageAt_14 : decode cX4_pageAt 14 = .ok (.getfield 27, 3) := by decide +kernel
theorem dX4_pageAt_17 : decode cX4_pageAt 17 = .ok (.arraylength, 1) := by decide +kernel
theorem dX4_pageAt_18 : decode cX4_pageAt 18 = .ok (.if_icmp .ge 12, 3) := by decide +kernel
theorem dX4_pageAt_21 : decode cX4_pageAt 21 = .ok (.aload_n 0, 1) := by decide +kernel
theorem dX4_pageAt_22 : decode cX4_pageAt 22 = .ok (.getfield 27, 3) := by decide +kernel
theorem dX4_pageAt_25 : decode cX4_pageAt 25 = .ok (.iload_n 1, 1) := by decide +kernel
theorem dX4_pageAt_26 : decode cX4_pageAt 26 = .ok (.iaload, 1) := by decide +kernel
theorem dX4_pageAt_27 : decode cX4_pageAt 27 = .ok (.goto 5, 3) := by decide +kernel
theorem dX4_pageAt_30 : decode cX4_pageAt 30 = .ok (.bipush (-9), 2) := by decide +kernel
theorem dX4_pageAt_32 : decode cX4_pageAt 32 = .ok (.ireturn, 1) := by decide +kernel
theorem dX4_placeOf_0 : decode cX4_placeOf 0 = .ok (.iconst 0, 1) := by decide +kernel
theorem dX4_placeOf_1 : decode cX4_placeOf 1 = .ok (.istore_n 2, 1) := by decide +kernel
theorem dX4_placeOf_2 : decode cX4_placeOf 2 = .ok (.iload_n 2, 1) := by decide +kernel
theorem dX4_placeOf_3 : decode cX4_placeOf 3 = .ok (.aload_n 0, 1) := by decide +kernel
theorem dX4_placeOf_4 : decode cX4_placeOf 4 = .ok (.getfield 18, 3) := by decide +kernel
theorem dX4_placeOf_7 : decode cX4_placeOf 7 = .ok (.if_icmp .ge 30, 3) := by decide +kernel
theorem dX4_placeOf_10 : decode cX4_placeOf 10 = .ok (.iload_n 2, 1) := by decide +kernel
theorem dX4_placeOf_11 : decode cX4_placeOf 11 = .ok (.aload_n 0, 1) := by decide +kernel
theorem dX4_placeOf_12 : decode cX4_placeOf 12 = .ok (.getfield 27, 3) := by decide +kernel
theorem dX4_placeOf_15 : decode cX4_placeOf 15 = .ok (.arraylength, 1) := by decide +kernel
theorem dX4_placeOf_16 : decode cX4_placeOf 16 = .ok (.if_icmp .ge 21, 3) := by decide +kernel
theorem dX4_placeOf_19 : decode cX4_placeOf 19 = .ok (.aload_n 0, 1) := by decide +kernel
theorem dX4_placeOf_20 : decode cX4_placeOf 20 = .ok (.getfield 27, 3) := by decide +kernel
theorem dX4_placeOf_23 : decode cX4_placeOf 23 = .ok (.iload_n 2, 1) := by decide +kernel
theorem dX4_placeOf_24 : decode cX4_placeOf 24 = .ok (.iaload, 1) := by decide +kernel
theorem dX4_placeOf_25 : decode cX4_placeOf 25 = .ok (.iload_n 1, 1) := by decide +kernel
theorem dX4_placeOf_26 : decode cX4_placeOf 26 = .ok (.if_icmp .ne 5, 3) := by decide +kernel
theorem dX4_placeOf_29 : decode cX4_placeOf 29 = .ok (.iload_n 2, 1) := by decide +kernel
theorem dX4_placeOf_30 : decode cX4_placeOf 30 = .ok (.ireturn, 1) := by decide +kernel
theorem dX4_placeOf_31 : decode cX4_placeOf 31 = .ok (.iinc 2 1, 3) := by decide +kernel
theorem dX4_placeOf_34 : decode cX4_placeOf 34 = .ok (.goto (-32), 3) := by decide +kernel
theorem dX4_placeOf_37 : decode cX4_placeOf 37 = .ok (.bipush (-9), 2) := by decide +kernel
theorem dX4_placeOf_39 : decode cX4_placeOf 39 = .ok (.ireturn, 1) := by decide +kernel
theorem dX4_has_0 : decode cX4_has 0 = .ok (.aload_n 0, 1) := by decide +kernel
theorem dX4_has_1 : decode cX4_has 1 = .ok (.iload_n 1, 1) := by decide +kernel
theorem dX4_has_2 : decode cX4_has 2 = .ok (.invokevirtual 41, 3) := by decide +kernel
theorem dX4_has_5 : decode cX4_has 5 = .ok (.bipush (-9), 2) := by decide +kernel
theorem dX4_has_7 : decode cX4_has 7 = .ok (.if_icmp .eq 7, 3) := by decide +kernel
theorem dX4_has_10 : decode cX4_has 10 = .ok (.iconst 1, 1) := by decide +kernel
theorem dX4_has_11 : decode cX4_has 11 = .ok (.goto 4, 3) := by decide +kernel
theorem dX4_has_14 : decode cX4_has 14 = .ok (.iconst 0, 1) := by decide +kernel
theorem dX4_has_15 : decode cX4_has 15 = .ok (.ireturn, 1) := by decide +kernel
theorem dX4_shelfSet_0 : decode cX4_shelfSet 0 = .ok (.iconst 0, 1) := by decide +kernel
theorem dX4_shelfSet_1 : decode cX4_shelfSet 1 = .ok (.istore_n 1, 1) := by decide +kernel
theorem dX4_shelfSet_2 : decode cX4_shelfSet 2 = .ok (.iconst 0, 1) := by decide +kernel
theorem dX4_shelfSet_3 : decode cX4_shelfSet 3 = .ok (.istore_n 2, 1) := by decide +kernel
theorem dX4_shelfSet_4 : decode cX4_shelfSet 4 = .ok (.iload_n 2, 1) := by decide +kernel
theorem dX4_shelfSet_5 : decode cX4_shelfSet 5 = .ok (.aload_n 0, 1) := by decide +kernel
theorem dX4_shelfSet_6 : decode cX4_shelfSet 6 = .ok (.getfield 18, 3) := by decide +kernel
theorem dX4_shelfSet_9 : decode cX4_shelfSet 9 = .ok (.if_icmp .ge 29, 3) := by decide +kernel
theorem dX4_shelfSet_12 : decode cX4_shelfSet 12 = .ok (.iload_n 2, 1) := by decide +kernel
theorem dX4_shelfSet_13 : decode cX4_shelfSet 13 = .ok (.aload_n 0, 1) := by decide +kernel
theorem dX4_shelfSet_14 : decode cX4_shelfSet 14 = .ok (.getfield 27, 3) := by decide +kernel
theorem dX4_shelfSet_17 : decode cX4_shelfSet 17 = .ok (.arraylength, 1) := by decide +kernel
theorem dX4_shelfSet_18 : decode cX4_shelfSet 18 = .ok (.if_icmp .ge 20, 3) := by decide +kernel
theorem dX4_shelfSet_21 : decode cX4_shelfSet 21 = .ok (.iload_n 1, 1) := by decide +kernel
theorem dX4_shelfSet_22 : decode cX4_shelfSet 22 = .ok (.iconst 1, 1) := by decide +kernel
theorem dX4_shelfSet_23 : decode cX4_shelfSet 23 = .ok (.aload_n 0, 1) := by decide +kernel
theorem dX4_shelfSet_24 : decode cX4_shelfSet 24 = .ok (.getfield 27, 3) := by decide +kernel
theorem dX4_shelfSet_27 : decode cX4_shelfSet 27 = .ok (.iload_n 2, 1) := by decide +kernel
theorem dX4_shelfSet_28 : decode cX4_shelfSet 28 = .ok (.iaload, 1) := by decide +kernel
theorem dX4_shelfSet_29 : decode cX4_shelfSet 29 = .ok (.ishl, 1) := by decide +kernel
theorem dX4_shelfSet_30 : decode cX4_shelfSet 30 = .ok (.ior, 1) := by decide +kernel
theorem dX4_shelfSet_31 : decode cX4_shelfSet 31 = .ok (.istore_n 1, 1) := by decide +kernel
theorem dX4_shelfSet_32 : decode cX4_shelfSet 32 = .ok (.iinc 2 1, 3) := by decide +kernel
theorem dX4_shelfSet_35 : decode cX4_shelfSet 35 = .ok (.goto (-31), 3) := by decide +kernel
theorem dX4_shelfSet_38 : decode cX4_shelfSet 38 = .ok (.iload_n 1, 1) := by decide +kernel
theorem dX4_shelfSet_39 : decode cX4_shelfSet 39 = .ok (.ireturn, 1) := by decide +kernel
theorem dX4_addOldest_0 : decode cX4_addOldest 0 = .ok (.aload_n 0, 1) := by decide +kernel
theorem dX4_addOldest_1 : decode cX4_addOldest 1 = .ok (.getfield 18, 3) := by decide +kernel
theorem dX4_addOldest_4 : decode cX4_addOldest 4 = .ok (.ifCond .lt 35, 3) := by decide +kernel
theorem dX4_addOldest_7 : decode cX4_addOldest 7 = .ok (.aload_n 0, 1) := by decide +kernel
theorem dX4_addOldest_8 : decode cX4_addOldest 8 = .ok (.getfield 18, 3) := by decide +kernel
theorem dX4_addOldest_11 : decode cX4_addOldest 11 = .ok (.aload_n 0, 1) := by decide +kernel
theorem dX4_addOldest_12 : decode cX4_addOldest 12 = .ok (.getfield 27, 3) := by decide +kernel
theorem dX4_addOldest_15 : decode cX4_addOldest 15 = .ok (.arraylength, 1) := by decide +kernel
theorem dX4_addOldest_16 : decode cX4_addOldest 16 = .ok (.if_icmp .ge 23, 3) := by decide +kernel
theorem dX4_addOldest_19 : decode cX4_addOldest 19 = .ok (.aload_n 0, 1) := by decide +kernel
theorem dX4_addOldest_20 : decode cX4_addOldest 20 = .ok (.getfield 27, 3) := by decide +kernel
theorem dX4_addOldest_23 : decode cX4_addOldest 23 = .ok (.aload_n 0, 1) := by decide +kernel
theorem dX4_addOldest_24 : decode cX4_addOldest 24 = .ok (.getfield 18, 3) := by decide +kernel
theorem dX4_addOldest_27 : decode cX4_addOldest 27 = .ok (.iload_n 1, 1) := by decide +kernel
theorem dX4_addOldest_28 : decode cX4_addOldest 28 = .ok (.iastore, 1) := by decide +kernel
theorem dX4_addOldest_29 : decode cX4_addOldest 29 = .ok (.aload_n 0, 1) := by decide +kernel
theorem dX4_addOldest_30 : decode cX4_addOldest 30 = .ok (.dup, 1) := by decide +kernel
theorem dX4_addOldest_31 : decode cX4_addOldest 31 = .ok (.getfield 18, 3) := by decide +kernel
theorem dX4_addOldest_34 : decode cX4_addOldest 34 = .ok (.iconst 1, 1) := by decide +kernel
theorem dX4_addOldest_35 : decode cX4_addOldest 35 = .ok (.iadd, 1) := by decide +kernel
theorem dX4_addOldest_36 : decode cX4_addOldest 36 = .ok (.putfield 18, 3) := by decide +kernel
theorem dX4_addOldest_39 : decode cX4_addOldest 39 = .ok (.return_, 1) := by decide +kernel
theorem dX4_addNewest_0 : decode cX4_addNewest 0 = .ok (.aload_n 0, 1) := by decide +kernel
theorem dX4_addNewest_1 : decode cX4_addNewest 1 = .ok (.getfield 18, 3) := by decide +kernel
theorem dX4_addNewest_4 : decode cX4_addNewest 4 = .ok (.ifCond .lt 61, 3) := by decide +kernel
theorem dX4_addNewest_7 : decode cX4_addNewest 7 = .ok (.aload_n 0, 1) := by decide +kernel
theorem dX4_addNewest_8 : decode cX4_addNewest 8 = .ok (.getfield 18, 3) := by decide +kernel
theorem dX4_addNewest_11 : decode cX4_addNewest 11 = .ok (.aload_n 0, 1) := by decide +kernel
theorem dX4_addNewest_12 : decode cX4_addNewest 12 = .ok (.getfield 27, 3) := by decide +kernel
theorem dX4_addNewest_15 : decode cX4_addNewest 15 = .ok (.arraylength, 1) := by decide +kernel
theorem dX4_addNewest_16 : decode cX4_addNewest 16 = .ok (.if_icmp .ge 49, 3) := by decide +kernel
theorem dX4_addNewest_19 : decode cX4_addNewest 19 = .ok (.aload_n 0, 1) := by decide +kernel
theorem dX4_addNewest_20 : decode cX4_addNewest 20 = .ok (.getfield 18, 3) := by decide +kernel
theorem dX4_addNewest_23 : decode cX4_addNewest 23 = .ok (.istore_n 2, 1) := by decide +kernel
theorem dX4_addNewest_24 : decode cX4_addNewest 24 = .ok (.iload_n 2, 1) := by decide +kernel
theorem dX4_addNewest_25 : decode cX4_addNewest 25 = .ok (.ifCond .le 23, 3) := by decide +kernel
theorem dX4_addNewest_28 : decode cX4_addNewest 28 = .ok (.aload_n 0, 1) := by decide +kernel
theorem dX4_addNewest_29 : decode cX4_addNewest 29 = .ok (.getfield 27, 3) := by decide +kernel
theorem dX4_addNewest_32 : decode cX4_addNewest 32 = .ok (.iload_n 2, 1) := by decide +kernel
theorem dX4_addNewest_33 : decode cX4_addNewest 33 = .ok (.aload_n 0, 1) := by decide +kernel
theorem dX4_addNewest_34 : decode cX4_addNewest 34 = .ok (.getfield 27, 3) := by decide +kernel
theorem dX4_addNewest_37 : decode cX4_addNewest 37 = .ok (.iload_n 2, 1) := by decide +kernel
theorem dX4_addNewest_38 : decode cX4_addNewest 38 = .ok (.iconst 1, 1) := by decide +kernel
theorem dX4_addNewest_39 : decode cX4_addNewest 39 = .ok (.isub, 1) := by decide +kernel
theorem dX4_addNewest_40 : decode cX4_addNewest 40 = .ok (.iaload, 1) := by decide +kernel
theorem dX4_addNewest_41 : decode cX4_addNewest 41 = .ok (.iastore, 1) := by decide +kernel
theorem dX4_addNewest_42 : decode cX4_addNewest 42 = .ok (.iinc 2 (-1), 3) := by decide +kernel
theorem dX4_addNewest_45 : decode cX4_addNewest 45 = .ok (.goto (-21), 3) := by decide +kernel
theorem dX4_addNewest_48 : decode cX4_addNewest 48 = .ok (.aload_n 0, 1) := by decide +kernel
theorem dX4_addNewest_49 : decode cX4_addNewest 49 = .ok (.getfield 27, 3) := by decide +kernel
theorem dX4_addNewest_52 : decode cX4_addNewest 52 = .ok (.iconst 0, 1) := by decide +kernel
theorem dX4_addNewest_53 : decode cX4_addNewest 53 = .ok (.iload_n 1, 1) := by decide +kernel
theorem dX4_addNewest_54 : decode cX4_addNewest 54 = .ok (.iastore, 1) := by decide +kernel
theorem dX4_addNewest_55 : decode cX4_addNewest 55 = .ok (.aload_n 0, 1) := by decide +kernel
theorem dX4_addNewest_56 : decode cX4_addNewest 56 = .ok (.dup, 1) := by decide +kernel
theorem dX4_addNewest_57 : decode cX4_addNewest 57 = .ok (.getfield 18, 3) := by decide +kernel
theorem dX4_addNewest_60 : decode cX4_addNewest 60 = .ok (.iconst 1, 1) := by decide +kernel
theorem dX4_addNewest_61 : decode cX4_addNewest 61 = .ok (.iadd, 1) := by decide +kernel
theorem dX4_addNewest_62 : decode cX4_addNewest 62 = .ok (.putfield 18, 3) := by decide +kernel
theorem dX4_addNewest_65 : decode cX4_addNewest 65 = .ok (.return_, 1) := by decide +kernel
theorem dX4_removeAt_0 : decode cX4_removeAt 0 = .ok (.iload_n 1, 1) := by decide +kernel
theorem dX4_removeAt_1 : decode cX4_removeAt 1 = .ok (.ifCond .lt 65, 3) := by decide +kernel
theorem dX4_removeAt_4 : decode cX4_removeAt 4 = .ok (.iload_n 1, 1) := by decide +kernel
theorem dX4_removeAt_5 : decode cX4_removeAt 5 = .ok (.aload_n 0, 1) := by decide +kernel
theorem dX4_removeAt_6 : decode cX4_removeAt 6 = .ok (.getfield 18, 3) := by decide +kernel
theorem dX4_removeAt_9 : decode cX4_removeAt 9 = .ok (.if_icmp .ge 57, 3) := by decide +kernel
theorem dX4_removeAt_12 : decode cX4_removeAt 12 = .ok (.aload_n 0, 1) := by decide +kernel
theorem dX4_removeAt_13 : decode cX4_removeAt 13 = .ok (.getfield 18, 3) := by decide +kernel
theorem dX4_removeAt_16 : decode cX4_removeAt 16 = .ok (.aload_n 0, 1) := by decide +kernel
theorem dX4_removeAt_17 : decode cX4_removeAt 17 = .ok (.getfield 27, 3) := by decide +kernel
theorem dX4_removeAt_20 : decode cX4_removeAt 20 = .ok (.arraylength, 1) := by decide +kernel
theorem dX4_removeAt_21 : decode cX4_removeAt 21 = .ok (.if_icmp .gt 45, 3) := by decide +kernel
theorem dX4_removeAt_24 : decode cX4_removeAt 24 = .ok (.iload_n 1, 1) := by decide +kernel
theorem dX4_removeAt_25 : decode cX4_removeAt 25 = .ok (.iconst 1, 1) := by decide +kernel
theorem dX4_removeAt_26 : decode cX4_removeAt 26 = .ok (.iadd, 1) := by decide +kernel
theorem dX4_removeAt_27 : decode cX4_removeAt 27 = .ok (.istore_n 2, 1) := by decide +kernel
theorem dX4_removeAt_28 : decode cX4_removeAt 28 = .ok (.iload_n 2, 1) := by decide +kernel
theorem dX4_removeAt_29 : decode cX4_removeAt 29 = .ok (.aload_n 0, 1) := by decide +kernel
theorem dX4_removeAt_30 : decode cX4_removeAt 30 = .ok (.getfield 18, 3) := by decide +kernel
theorem dX4_removeAt_33 : decode cX4_removeAt 33 = .ok (.if_icmp .ge 23, 3) := by decide +kernel
theorem dX4_removeAt_36 : decode cX4_removeAt 36 = .ok (.aload_n 0, 1) := by decide +kernel
theorem dX4_removeAt_37 : decode cX4_removeAt 37 = .ok (.getfield 27, 3) := by decide +kernel
theorem dX4_removeAt_40 : decode cX4_removeAt 40 = .ok (.iload_n 2, 1) := by decide +kernel
theorem dX4_removeAt_41 : decode cX4_removeAt 41 = .ok (.iconst 1, 1) := by decide +kernel
theorem dX4_removeAt_42 : decode cX4_removeAt 42 = .ok (.isub, 1) := by decide +kernel
theorem dX4_removeAt_43 : decode cX4_removeAt 43 = .ok (.aload_n 0, 1) := by decide +kernel
theorem dX4_removeAt_44 : decode cX4_removeAt 44 = .ok (.getfield 27, 3) := by decide +kernel
theorem dX4_removeAt_47 : decode cX4_removeAt 47 = .ok (.iload_n 2, 1) := by decide +kernel
theorem dX4_removeAt_48 : decode cX4_removeAt 48 = .ok (.iaload, 1) := by decide +kernel
theorem dX4_removeAt_49 : decode cX4_removeAt 49 = .ok (.iastore, 1) := by decide +kernel
theorem dX4_removeAt_50 : decode cX4_removeAt 50 = .ok (.iinc 2 1, 3) := by decide +kernel
theorem dX4_removeAt_53 : decode cX4_removeAt 53 = .ok (.goto (-25), 3) := by decide +kernel
theorem dX4_removeAt_56 : decode cX4_removeAt 56 = .ok (.aload_n 0, 1) := by decide +kernel
theorem dX4_removeAt_57 : decode cX4_removeAt 57 = .ok (.dup, 1) := by decide +kernel
theorem dX4_removeAt_58 : decode cX4_removeAt 58 = .ok (.getfield 18, 3) := by decide +kernel
theorem dX4_removeAt_61 : decode cX4_removeAt 61 = .ok (.iconst 1, 1) := by decide +kernel
theorem dX4_removeAt_62 : decode cX4_removeAt 62 = .ok (.isub, 1) := by decide +kernel
theorem dX4_removeAt_63 : decode cX4_removeAt 63 = .ok (.putfield 18, 3) := by decide +kernel
theorem dX4_removeAt_66 : decode cX4_removeAt 66 = .ok (.return_, 1) := by decide +kernel
theorem dX4_renew_0 : decode cX4_renew 0 = .ok (.aload_n 0, 1) := by decide +kernel
theorem dX4_renew_1 : decode cX4_renew 1 = .ok (.aload_n 0, 1) := by decide +kernel
theorem dX4_renew_2 : decode cX4_renew 2 = .ok (.iload_n 1, 1) := by decide +kernel
theorem dX4_renew_3 : decode cX4_renew 3 = .ok (.invokevirtual 41, 3) := by decide +kernel
theorem dX4_renew_6 : decode cX4_renew 6 = .ok (.invokevirtual 45, 3) := by decide +kernel
theorem dX4_renew_9 : decode cX4_renew 9 = .ok (.aload_n 0, 1) := by decide +kernel
theorem dX4_renew_10 : decode cX4_renew 10 = .ok (.iload_n 1, 1) := by decide +kernel
theorem dX4_renew_11 : decode cX4_renew 11 = .ok (.invokevirtual 49, 3) := by decide +kernel
theorem dX4_renew_14 : decode cX4_renew 14 = .ok (.return_, 1) := by decide +kernel
theorem dX4_move_0 : decode cX4_move 0 = .ok (.iload_n 1, 1) := by decide +kernel
theorem dX4_move_1 : decode cX4_move 1 = .ok (.ifCond .lt 33, 3) := by decide +kernel
theorem dX4_move_4 : decode cX4_move 4 = .ok (.iload_n 1, 1) := by decide +kernel
theorem dX4_move_5 : decode cX4_move 5 = .ok (.aload_n 0, 1) := by decide +kernel
theorem dX4_move_6 : decode cX4_move 6 = .ok (.getfield 31, 3) := by decide +kernel
theorem dX4_move_9 : decode cX4_move 9 = .ok (.arraylength, 1) := by decide +kernel
theorem dX4_move_10 : decode cX4_move 10 = .ok (.if_icmp .ge 24, 3) := by decide +kernel
theorem dX4_move_13 : decode cX4_move 13 = .ok (.aload_n 0, 1) := by decide +kernel
theorem dX4_move_14 : decode cX4_move 14 = .ok (.getfield 31, 3) := by decide +kernel
theorem dX4_move_17 : decode cX4_move 17 = .ok (.iload_n 1, 1) := by decide +kernel
theorem dX4_move_18 : decode cX4_move 18 = .ok (.iaload, 1) := by decide +kernel
theorem dX4_move_19 : decode cX4_move 19 = .ok (.bipush 7, 2) := by decide +kernel
theorem dX4_move_21 : decode cX4_move 21 = .ok (.if_icmp .ge 13, 3) := by decide +kernel
theorem dX4_move_24 : decode cX4_move 24 = .ok (.aload_n 0, 1) := by decide +kernel
theorem dX4_move_25 : decode cX4_move 25 = .ok (.getfield 31, 3) := by decide +kernel
theorem dX4_move_28 : decode cX4_move 28 = .ok (.iload_n 1, 1) := by decide +kernel
theorem dX4_move_29 : decode cX4_move 29 = .ok (.dup2, 1) := by decide +kernel
theorem dX4_move_30 : decode cX4_move 30 = .ok (.iaload, 1) := by decide +kernel
theorem dX4_move_31 : decode cX4_move 31 = .ok (.iload_n 2, 1) := by decide +kernel
theorem dX4_move_32 : decode cX4_move 32 = .ok (.iadd, 1) := by decide +kernel
theorem dX4_move_33 : decode cX4_move 33 = .ok (.iastore, 1) := by decide +kernel
theorem dX4_move_34 : decode cX4_move 34 = .ok (.return_, 1) := by decide +kernel
theorem dX4_filterSet_0 : decode cX4_filterSet 0 = .ok (.iconst 0, 1) := by decide +kernel
theorem dX4_filterSet_1 : decode cX4_filterSet 1 = .ok (.istore_n 1, 1) := by decide +kernel
theorem dX4_filterSet_2 : decode cX4_filterSet 2 = .ok (.iconst 0, 1) := by decide +kernel
theorem dX4_filterSet_3 : decode cX4_filterSet 3 = .ok (.istore_n 2, 1) := by decide +kernel
theorem dX4_filterSet_4 : decode cX4_filterSet 4 = .ok (.iload_n 2, 1) := by decide +kernel
theorem dX4_filterSet_5 : decode cX4_filterSet 5 = .ok (.aload_n 0, 1) := by decide +kernel
theorem dX4_filterSet_6 : decode cX4_filterSet 6 = .ok (.getfield 31, 3) := by decide +kernel
theorem dX4_filterSet_9 : decode cX4_filterSet 9 = .ok (.arraylength, 1) := by decide +kernel
theorem dX4_filterSet_10 : decode cX4_filterSet 10 = .ok (.if_icmp .ge 24, 3) := by decide +kernel
theorem dX4_filterSet_13 : decode cX4_filterSet 13 = .ok (.aload_n 0, 1) := by decide +kernel
theorem dX4_filterSet_14 : decode cX4_filterSet 14 = .ok (.getfield 31, 3) := by decide +kernel
theorem dX4_filterSet_17 : decode cX4_filterSet 17 = .ok (.iload_n 2, 1) := by decide +kernel
theorem dX4_filterSet_18 : decode cX4_filterSet 18 = .ok (.iaload, 1) := by decide +kernel
theorem dX4_filterSet_19 : decode cX4_filterSet 19 = .ok (.ifCond .le 9, 3) := by decide +kernel
theorem dX4_filterSet_22 : decode cX4_filterSet 22 = .ok (.iload_n 1, 1) := by decide +kernel
theorem dX4_filterSet_23 : decode cX4_filterSet 23 = .ok (.iconst 1, 1) := by decide +kernel
theorem dX4_filterSet_24 : decode cX4_filterSet 24 = .ok (.iload_n 2, 1) := by decide +kernel
theorem dX4_filterSet_25 : decode cX4_filterSet 25 = .ok (.ishl, 1) := by decide +kernel
theorem dX4_filterSet_26 : decode cX4_filterSet 26 = .ok (.ior, 1) := by decide +kernel
theorem dX4_filterSet_27 : decode cX4_filterSet 27 = .ok (.istore_n 1, 1) := by decide +kernel
theorem dX4_filterSet_28 : decode cX4_filterSet 28 = .ok (.iinc 2 1, 3) := by decide +kernel
theorem dX4_filterSet_31 : decode cX4_filterSet 31 = .ok (.goto (-27), 3) := by decide +kernel
theorem dX4_filterSet_34 : decode cX4_filterSet 34 = .ok (.iload_n 1, 1) := by decide +kernel
theorem dX4_filterSet_35 : decode cX4_filterSet 35 = .ok (.ireturn, 1) := by decide +kernel
theorem dX5_init_0 : decode cX5_init 0 = .ok (.aload_n 0, 1) := by decide +kernel
theorem dX5_init_1 : decode cX5_init 1 = .ok (.invokespecial 3, 3) := by decide +kernel
theorem dX5_init_4 : decode cX5_init 4 = .ok (.aload_n 0, 1) := by decide +kernel
theorem dX5_init_5 : decode cX5_init 5 = .ok (.bipush 6, 2) := by decide +kernel
theorem dX5_init_7 : decode cX5_init 7 = .ok (.newarray .int, 2) := by decide +kernel
theorem dX5_init_9 : decode cX5_init 9 = .ok (.putfield 9, 3) := by decide +kernel
theorem dX5_init_12 : decode cX5_init 12 = .ok (.aload_n 0, 1) := by decide +kernel
theorem dX5_init_13 : decode cX5_init 13 = .ok (.bipush 6, 2) := by decide +kernel
theorem dX5_init_15 : decode cX5_init 15 = .ok (.newarray .int, 2) := by decide +kernel
theorem dX5_init_17 : decode cX5_init 17 = .ok (.putfield 15, 3) := by decide +kernel
theorem dX5_init_20 : decode cX5_init 20 = .ok (.aload_n 0, 1) := by decide +kernel
theorem dX5_init_21 : decode cX5_init 21 = .ok (.bipush 6, 2) := by decide +kernel
theorem dX5_init_23 : decode cX5_init 23 = .ok (.newarray .boolean, 2) := by decide +kernel
theorem dX5_init_25 : decode cX5_init 25 = .ok (.putfield 18, 3) := by decide +kernel
theorem dX5_init_28 : decode cX5_init 28 = .ok (.aload_n 0, 1) := by decide +kernel
theorem dX5_init_29 : decode cX5_init 29 = .ok (.iconst 0, 1) := by decide +kernel
theorem dX5_init_30 : decode cX5_init 30 = .ok (.putfield 22, 3) := by decide +kernel
theorem dX5_init_33 : decode cX5_init 33 = .ok (.return_, 1) := by decide +kernel
theorem dX5_add_0 : decode cX5_add 0 = .ok (.aload_n 0, 1) := by decide +kernel
theorem dX5_add_1 : decode cX5_add 1 = .ok (.getfield 22, 3) := by decide +kernel
theorem dX5_add_4 : decode cX5_add 4 = .ok (.ifCond .lt 39, 3) := by decide +kernel
theorem dX5_add_7 : decode cX5_add 7 = .ok (.aload_n 0, 1) := by decide +kernel
theorem dX5_add_8 : decode cX5_add 8 = .ok (.getfield 22, 3) := by decide +kernel
theorem dX5_add_11 : decode cX5_add 11 = .ok (.aload_n 0, 1) := by decide +kernel
theorem dX5_add_12 : decode cX5_add 12 = .ok (.getfield 9, 3) := by decide +kernel
theorem dX5_add_15 : decode cX5_add 15 = .ok (.arraylength, 1) := by decide +kernel
theorem dX5_add_16 : decode cX5_add 16 = .ok (.if_icmp .ge 27, 3) := by decide +kernel
theorem dX5_add_19 : decode cX5_add 19 = .ok (.aload_n 0, 1) := by decide +kernel
theorem dX5_add_20 : decode cX5_add 20 = .ok (.getfield 22, 3) := by decide +kernel
theorem dX5_add_23 : decode cX5_add 23 = .ok (.aload_n 0, 1) := by decide +kernel
theorem dX5_add_24 : decode cX5_add 24 = .ok (.getfield 15, 3) := by decide +kernel
theorem dX5_add_27 : decode cX5_add 27 = .ok (.arraylength, 1) := by decide +kernel
theorem dX5_add_28 : decode cX5_add 28 = .ok (.if_icmp .ge 15, 3) := by decide +kernel
theorem dX5_add_31 : decode cX5_add 31 = .ok (.aload_n 0, 1) := by decide +kernel
theorem dX5_add_32 : decode cX5_add 32 = .ok (.getfield 22, 3) := by decide +kernel
theorem dX5_add_35 : decode cX5_add 35 = .ok (.aload_n 0, 1) := by decide +kernel
theorem dX5_add_36 : decode cX5_add 36 = .ok (.getfield 18, 3) := by decide +kernel
theorem dX5_add_39 : decode cX5_add 39 = .ok (.arraylength, 1) := by decide +kernel
theorem dX5_add_40 : decode cX5_add 40 = .ok (.if_icmp .lt 5, 3) := by decide +kernel
theorem dX5_add_43 : decode cX5_add 43 = .ok (.iconst 0, 1) := by decide +kernel
theorem dX5_add_44 : decode cX5_add 44 = .ok (.ireturn, 1) := by decide +kernel
theorem dX5_add_45 : decode cX5_add 45 = .ok (.aload_n 0, 1) := by decide +kernel
theorem dX5_add_46 : decode cX5_add 46 = .ok (.getfield 9, 3) := by decide +kernel
theorem dX5_add_49 : decode cX5_add 49 = .ok (.aload_n 0, 1) := by decide +kernel
theorem dX5_add_50 : decode cX5_add 50 = .ok (.getfield 22, 3) := by decide +kernel
theorem dX5_add_53 : decode cX5_add 53 = .ok (.iload_n 1, 1) := by decide +kernel
theorem dX5_add_54 : decode cX5_add 54 = .ok (.iastore, 1) := by decide +kernel
theorem dX5_add_55 : decode cX5_add 55 = .ok (.aload_n 0, 1) := by decide +kernel
theorem dX5_add_56 : decode cX5_add 56 = .ok (.getfield 15, 3) := by decide +kernel
theorem dX5_add_59 : decode cX5_add 59 = .ok (.aload_n 0, 1) := by decide +kernel
theorem dX5_add_60 : decode cX5_add 60 = .ok (.getfield 22, 3) := by decide +kernel
theorem dX5_add_63 : decode cX5_add 63 = .ok (.iload_n 2, 1) := by decide +kernel
theorem dX5_add_64 : decode cX5_add 64 = .ok (.iastore, 1) := by decide +kernel
theorem dX5_add_65 : decode cX5_add 65 = .ok (.aload_n 0, 1) := by decide +kernel
theorem dX5_add_66 : decode cX5_add 66 = .ok (.getfield 18, 3) := by decide +kernel
theorem dX5_add_69 : decode cX5_add 69 = .ok (.aload_n 0, 1) := by decide +kernel
theorem dX5_add_70 : decode cX5_add 70 = .ok (.getfield 22, 3) := by decide +kernel
theorem dX5_add_73 : decode cX5_add 73 = .ok (.iload_n 3, 1) := by decide +kernel
theorem dX5_add_74 : decode cX5_add 74 = .ok (.bastore, 1) := by decide +kernel
theorem dX5_add_75 : decode cX5_add 75 = .ok (.aload_n 0, 1) := by decide +kernel
theorem dX5_add_76 : decode cX5_add 76 = .ok (.dup, 1) := by decide +kernel
theorem dX5_add_77 : decode cX5_add 77 = .ok (.getfield 22, 3) := by decide +kernel
theorem dX5_add_80 : decode cX5_add 80 = .ok (.iconst 1, 1) := by decide +kernel
theorem dX5_add_81 : decode cX5_add 81 = .ok (.iadd, 1) := by decide +kernel
theorem dX5_add_82 : decode cX5_add 82 = .ok (.putfield 22, 3) := by decide +kernel
theorem dX5_add_85 : decode cX5_add 85 = .ok (.iconst 1, 1) := by decide +kernel
theorem dX5_add_86 : decode cX5_add 86 = .ok (.ireturn, 1) := by decide +kernel
theorem dX5_agreeing_0 : decode cX5_agreeing 0 = .ok (.iconst 0, 1) := by decide +kernel
theorem dX5_agreeing_1 : decode cX5_agreeing 1 = .ok (.istore_n 2, 1) := by decide +kernel
theorem dX5_agreeing_2 : decode cX5_agreeing 2 = .ok (.iconst 0, 1) := by decide +kernel
theorem dX5_agreeing_3 : decode cX5_agreeing 3 = .ok (.istore_n 3, 1) := by decide +kernel
theorem dX5_agreeing_4 : decode cX5_agreeing 4 = .ok (.iload_n 3, 1) := by decide +kernel
theorem dX5_agreeing_5 : decode cX5_agreeing 5 = .ok (.bipush 32, 2) := by decide +kernel
theorem dX5_agreeing_7 : decode cX5_agreeing 7 = .ok (.if_icmp .ge 24, 3) := by decide +kernel
theorem dX5_agreeing_10 : decode cX5_agreeing 10 = .ok (.aload_n 0, 1) := by decide +kernel
theorem dX5_agreeing_11 : decode cX5_agreeing 11 = .ok (.aload_n 1, 1) := by decide +kernel
theorem dX5_agreeing_12 : decode cX5_agreeing 12 = .ok (.iload_n 3, 1) := by decide +kernel
theorem dX5_agreeing_13 : decode cX5_agreeing 13 = .ok (.invokevirtual 26, 3) := by decide +kernel
theorem dX5_agreeing_16 : decode cX5_agreeing 16 = .ok (.ifCond .eq 9, 3) := by decide +kernel
theorem dX5_agreeing_19 : decode cX5_agreeing 19 = .ok (.iload_n 2, 1) := by decide +kernel
theorem dX5_agreeing_20 : decode cX5_agreeing 20 = .ok (.iconst 1, 1) := by decide +kernel
theorem dX5_agreeing_21 : decode cX5_agreeing 21 = .ok (.iload_n 3, 1) := by decide +kernel
theorem dX5_agreeing_22 : decode cX5_agreeing 22 = .ok (.ishl, 1) := by decide +kernel
theorem dX5_agreeing_23 : decode cX5_agreeing 23 = .ok (.ior, 1) := by decide +kernel
theorem dX5_agreeing_24 : decode cX5_agreeing 24 = .ok (.istore_n 2, 1) := by decide +kernel
theorem dX5_agreeing_25 : decode cX5_agreeing 25 = .ok (.iinc 3 1, 3) := by decide +kernel
theorem dX5_agreeing_28 : decode cX5_agreeing 28 = .ok (.goto (-24), 3) := by decide +kernel
theorem dX5_agreeing_31 : decode cX5_agreeing 31 = .ok (.iload_n 2, 1) := by decide +kernel
theorem dX5_agreeing_32 : decode cX5_agreeing 32 = .ok (.ireturn, 1) := by decide +kernel
theorem dX5_agrees_0 : decode cX5_agrees 0 = .ok (.iconst 0, 1) := by decide +kernel
theorem dX5_agrees_1 : decode cX5_agrees 1 = .ok (.istore_n 3, 1) := by decide +kernel
theorem dX5_agrees_2 : decode cX5_agrees 2 = .ok (.iload_n 3, 1) := by decide +kernel
theorem dX5_agrees_3 : decode cX5_agrees 3 = .ok (.aload_n 0, 1) := by decide +kernel
theorem dX5_agrees_4 : decode cX5_agrees 4 = .ok (.getfield 22, 3) := by decide +kernel
theorem dX5_agrees_7 : decode cX5_agrees 7 = .ok (.if_icmp .ge 77, 3) := by decide +kernel
theorem dX5_agrees_10 : decode cX5_agrees 10 = .ok (.iload_n 3, 1) := by decide +kernel
theorem dX5_agrees_11 : decode cX5_agrees 11 = .ok (.aload_n 0, 1) := by decide +kernel
theorem dX5_agrees_12 : decode cX5_agrees 12 = .ok (.getfield 9, 3) := by decide +kernel
theorem dX5_agrees_15 : decode cX5_agrees 15 = .ok (.arraylength, 1) := by decide +kernel
theorem dX5_agrees_16 : decode cX5_agrees 16 = .ok (.if_icmp .ge 68, 3) := by decide +kernel
theorem dX5_agrees_19 : decode cX5_agrees 19 = .ok (.iload_n 3, 1) := by decide +kernel
theorem dX5_agrees_20 : decode cX5_agrees 20 = .ok (.aload_n 0, 1) := by decide +kernel
theorem dX5_agrees_21 : decode cX5_agrees 21 = .ok (.getfield 15, 3) := by decide +kernel
theorem dX5_agrees_24 : decode cX5_agrees 24 = .ok (.arraylength, 1) := by decide +kernel
theorem dX5_agrees_25 : decode cX5_agrees 25 = .ok (.if_icmp .ge 59, 3) := by decide +kernel
theorem dX5_agrees_28 : decode cX5_agrees 28 = .ok (.iload_n 3, 1) := by decide +kernel
theorem dX5_agrees_29 : decode cX5_agrees 29 = .ok (.aload_n 0, 1) := by decide +kernel
theorem dX5_agrees_30 : decode cX5_agrees 30 = .ok (.getfield 18, 3) := by decide +kernel
theorem dX5_agrees_33 : decode cX5_agrees 33 = .ok (.arraylength, 1) := by decide +kernel
theorem dX5_agrees_34 : decode cX5_agrees 34 = .ok (.if_icmp .ge 50, 3) := by decide +kernel
theorem dX5_agrees_37 : decode cX5_agrees 37 = .ok (.aload_n 1, 1) := by decide +kernel
theorem dX5_agrees_38 : decode cX5_agrees 38 = .ok (.aload_n 0, 1) := by decide +kernel
theorem dX5_agrees_39 : decode cX5_agrees 39 = .ok (.getfield 9, 3) := by decide +kernel
theorem dX5_agrees_42 : decode cX5_agrees 42 = .ok (.iload_n 3, 1) := by decide +kernel
theorem dX5_agrees_43 : decode cX5_agrees 43 = .ok (.iaload, 1) := by decide +kernel
theorem dX5_agrees_44 : decode cX5_agrees 44 = .ok (.invokevirtual 30, 3) := by decide +kernel
theorem dX5_agrees_47 : decode cX5_agrees 47 = .ok (.astore 4, 2) := by decide +kernel
theorem dX5_agrees_49 : decode cX5_agrees 49 = .ok (.aload 4, 2) := by decide +kernel
theorem dX5_agrees_51 : decode cX5_agrees 51 = .ok (.ifnull 27, 3) := by decide +kernel
theorem dX5_agrees_54 : decode cX5_agrees 54 = .ok (.aload_n 1, 1) := by decide +kernel
theorem dX5_agrees_55 : decode cX5_agrees 55 = .ok (.aload 4, 2) := by decide +kernel
theorem dX5_agrees_57 : decode cX5_agrees 57 = .ok (.aload_n 0, 1) := by decide +kernel
theorem dX5_agrees_58 : decode cX5_agrees 58 = .ok (.getfield 15, 3) := by decide +kernel
theorem dX5_agrees_61 : decode cX5_agrees 61 = .ok (.iload_n 3, 1) := by decide +kernel
theorem dX5_agrees_62 : decode cX5_agrees 62 = .ok (.iaload, 1) := by decide +kernel
theorem dX5_agrees_63 : decode cX5_agrees 63 = .ok (.iload_n 2, 1) := by decide +kernel
theorem dX5_agrees_64 : decode cX5_agrees 64 = .ok (.invokevirtual 36, 3) := by decide +kernel
theorem dX5_agrees_67 : decode cX5_agrees 67 = .ok (.aload_n 0, 1) := by decide +kernel
theorem dX5_agrees_68 : decode cX5_agrees 68 = .ok (.getfield 18, 3) := by decide +kernel
theorem dX5_agrees_71 : decode cX5_agrees 71 = .ok (.iload_n 3, 1) := by decide +kernel
theorem dX5_agrees_72 : decode cX5_agrees 72 = .ok (.baload, 1) := by decide +kernel
theorem dX5_agrees_73 : decode cX5_agrees 73 = .ok (.if_icmp .eq 5, 3) := by decide +kernel
theorem dX5_agrees_76 : decode cX5_agrees 76 = .ok (.iconst 0, 1) := by decide +kernel
theorem dX5_agrees_77 : decode cX5_agrees 77 = .ok (.ireturn, 1) := by decide +kernel
theorem dX5_agrees_78 : decode cX5_agrees 78 = .ok (.iinc 3 1, 3) := by decide +kernel
theorem dX5_agrees_81 : decode cX5_agrees 81 = .ok (.goto (-79), 3) := by decide +kernel
theorem dX5_agrees_84 : decode cX5_agrees 84 = .ok (.iconst 1, 1) := by decide +kernel
theorem dX5_agrees_85 : decode cX5_agrees 85 = .ok (.ireturn, 1) := by decide +kernel
theorem dX6_init_0 : decode cX6_init 0 = .ok (.aload_n 0, 1) := by decide +kernel
theorem dX6_init_1 : decode cX6_init 1 = .ok (.invokespecial 3, 3) := by decide +kernel
theorem dX6_init_4 : decode cX6_init 4 = .ok (.aload_n 0, 1) := by decide +kernel
theorem dX6_init_5 : decode cX6_init 5 = .ok (.iconst 0, 1) := by decide +kernel
theorem dX6_init_6 : decode cX6_init 6 = .ok (.putfield 9, 3) := by decide +kernel
theorem dX6_init_9 : decode cX6_init 9 = .ok (.aload_n 0, 1) := by decide +kernel
theorem dX6_init_10 : decode cX6_init 10 = .ok (.new 15, 3) := by decide +kernel
theorem dX6_init_13 : decode cX6_init 13 = .ok (.dup, 1) := by decide +kernel
theorem dX6_init_14 : decode cX6_init 14 = .ok (.invokespecial 17, 3) := by decide +kernel
theorem dX6_init_17 : decode cX6_init 17 = .ok (.putfield 18, 3) := by decide +kernel
theorem dX6_init_20 : decode cX6_init 20 = .ok (.aload_n 0, 1) := by decide +kernel
theorem dX6_init_21 : decode cX6_init 21 = .ok (.bipush 100, 2) := by decide +kernel
theorem dX6_init_23 : decode cX6_init 23 = .ok (.newarray .int, 2) := by decide +kernel
theorem dX6_init_25 : decode cX6_init 25 = .ok (.putfield 22, 3) := by decide +kernel
theorem dX6_init_28 : decode cX6_init 28 = .ok (.aload_n 0, 1) := by decide +kernel
theorem dX6_init_29 : decode cX6_init 29 = .ok (.iconst 0, 1) := by decide +kernel
theorem dX6_init_30 : decode cX6_init 30 = .ok (.putfield 26, 3) := by decide +kernel
theorem dX6_init_33 : decode cX6_init 33 = .ok (.aload_n 0, 1) := by decide +kernel
theorem dX6_init_34 : decode cX6_init 34 = .ok (.iconst 0, 1) := by decide +kernel
theorem dX6_init_35 : decode cX6_init 35 = .ok (.putfield 29, 3) := by decide +kernel
theorem dX6_init_38 : decode cX6_init 38 = .ok (.return_, 1) := by decide +kernel
theorem dX6_append_0 : decode cX6_append 0 = .ok (.aload_n 0, 1) := by decide +kernel
theorem dX6_append_1 : decode cX6_append 1 = .ok (.getfield 9, 3) := by decide +kernel
theorem dX6_append_4 : decode cX6_append 4 = .ok (.ifCond .lt 15, 3) := by decide +kernel
theorem dX6_append_7 : decode cX6_append 7 = .ok (.aload_n 0, 1) := by decide +kernel
theorem dX6_append_8 : decode cX6_append 8 = .ok (.getfield 9, 3) := by decide +kernel
theorem dX6_append_11 : decode cX6_append 11 = .ok (.aload_n 0, 1) := by decide +kernel
theorem dX6_append_12 : decode cX6_append 12 = .ok (.getfield 22, 3) := by decide +kernel
theorem dX6_append_15 : decode cX6_append 15 = .ok (.arraylength, 1) := by decide +kernel
theorem dX6_append_16 : decode cX6_append 16 = .ok (.if_icmp .lt 5, 3) := by decide +kernel
theorem dX6_append_19 : decode cX6_append 19 = .ok (.iconst 0, 1) := by decide +kernel
theorem dX6_append_20 : decode cX6_append 20 = .ok (.ireturn, 1) := by decide +kernel
theorem dX6_append_21 : decode cX6_append 21 = .ok (.aload_n 0, 1) := by decide +kernel
theorem dX6_append_22 : decode cX6_append 22 = .ok (.getfield 22, 3) := by decide +kernel
theorem dX6_append_25 : decode cX6_append 25 = .ok (.aload_n 0, 1) := by decide +kernel
theorem dX6_append_26 : decode cX6_append 26 = .ok (.getfield 9, 3) := by decide +kernel
theorem dX6_append_29 : decode cX6_append 29 = .ok (.iload_n 1, 1) := by decide +kernel
theorem dX6_append_30 : decode cX6_append 30 = .ok (.iastore, 1) := by decide +kernel
theorem dX6_append_31 : decode cX6_append 31 = .ok (.aload_n 0, 1) := by decide +kernel
theorem dX6_append_32 : decode cX6_append 32 = .ok (.dup, 1) := by decide +kernel
theorem dX6_append_33 : decode cX6_append 33 = .ok (.getfield 9, 3) := by decide +kernel
theorem dX6_append_36 : decode cX6_append 36 = .ok (.iconst 1, 1) := by decide +kernel
theorem dX6_append_37 : decode cX6_append 37 = .ok (.iadd, 1) := by decide +kernel
theorem dX6_append_38 : decode cX6_append 38 = .ok (.putfield 9, 3) := by decide +kernel
theorem dX6_append_41 : decode cX6_append 41 = .ok (.iconst 1, 1) := by decide +kernel
theorem dX6_append_42 : decode cX6_append 42 = .ok (.ireturn, 1) := by decide +kernel
theorem dX6_read_0 : decode cX6_read 0 = .ok (.aload_n 0, 1) := by decide +kernel
theorem dX6_read_1 : decode cX6_read 1 = .ok (.iconst 0, 1) := by decide +kernel
theorem dX6_read_2 : decode cX6_read 2 = .ok (.putfield 26, 3) := by decide +kernel
theorem dX6_read_5 : decode cX6_read 5 = .ok (.aload_n 0, 1) := by decide +kernel
theorem dX6_read_6 : decode cX6_read 6 = .ok (.invokevirtual 32, 3) := by decide +kernel
theorem dX6_read_9 : decode cX6_read 9 = .ok (.ifCond .ne 8, 3) := by decide +kernel
theorem dX6_read_12 : decode cX6_read 12 = .ok (.aload_n 0, 1) := by decide +kernel
theorem dX6_read_13 : decode cX6_read 13 = .ok (.getfield 26, 3) := by decide +kernel
theorem dX6_read_16 : decode cX6_read 16 = .ok (.ireturn, 1) := by decide +kernel
theorem dX6_read_17 : decode cX6_read 17 = .ok (.iconst 0, 1) := by decide +kernel
theorem dX6_read_18 : decode cX6_read 18 = .ok (.istore_n 1, 1) := by decide +kernel
theorem dX6_read_19 : decode cX6_read 19 = .ok (.iload_n 1, 1) := by decide +kernel
theorem dX6_read_20 : decode cX6_read 20 = .ok (.bipush 100, 2) := by decide +kernel
theorem dX6_read_22 : decode cX6_read 22 = .ok (.if_icmp .ge 32, 3) := by decide +kernel
theorem dX6_read_25 : decode cX6_read 25 = .ok (.aload_n 0, 1) := by decide +kernel
theorem dX6_read_26 : decode cX6_read 26 = .ok (.getfield 26, 3) := by decide +kernel
theorem dX6_read_29 : decode cX6_read 29 = .ok (.aload_n 0, 1) := by decide +kernel
theorem dX6_read_30 : decode cX6_read 30 = .ok (.getfield 9, 3) := by decide +kernel
theorem dX6_read_33 : decode cX6_read 33 = .ok (.if_icmp .ge 21, 3) := by decide +kernel
theorem dX6_read_36 : decode cX6_read 36 = .ok (.aload_n 0, 1) := by decide +kernel
theorem dX6_read_37 : decode cX6_read 37 = .ok (.invokevirtual 36, 3) := by decide +kernel
theorem dX6_read_40 : decode cX6_read 40 = .ok (.ifCond .ne 8, 3) := by decide +kernel
theorem dX6_read_43 : decode cX6_read 43 = .ok (.aload_n 0, 1) := by decide +kernel
theorem dX6_read_44 : decode cX6_read 44 = .ok (.getfield 26, 3) := by decide +kernel
theorem dX6_read_47 : decode cX6_read 47 = .ok (.ireturn, 1) := by decide +kernel
theorem dX6_read_48 : decode cX6_read 48 = .ok (.iinc 1 1, 3) := by decide +kernel
theorem dX6_read_51 : decode cX6_read 51 = .ok (.goto (-32), 3) := by decide +kernel
theorem dX6_read_54 : decode cX6_read 54 = .ok (.aload_n 0, 1) := by decide +kernel
theorem dX6_read_55 : decode cX6_read 55 = .ok (.getfield 18, 3) := by decide +kernel
theorem dX6_read_58 : decode cX6_read 58 = .ok (.invokevirtual 39, 3) := by decide +kernel
theorem dX6_read_61 : decode cX6_read 61 = .ok (.bipush (-9), 2) := by decide +kernel
theorem dX6_read_63 : decode cX6_read 63 = .ok (.ireturn, 1) := by decide +kernel
theorem dX6_letter_0 : decode cX6_letter 0 = .ok (.aload_n 0, 1) := by decide +kernel
theorem dX6_letter_1 : decode cX6_letter 1 = .ok (.getfield 26, 3) := by decide +kernel
theorem dX6_letter_4 : decode cX6_letter 4 = .ok (.ifCond .lt 38, 3) := by decide +kernel
theorem dX6_letter_7 : decode cX6_letter 7 = .ok (.aload_n 0, 1) := by decide +kernel
theorem dX6_letter_8 : decode cX6_letter 8 = .ok (.getfield 26, 3) := by decide +kernel
theorem dX6_letter_11 : decode cX6_letter 11 = .ok (.aload_n 0, 1) := by decide +kernel
theorem dX6_letter_12 : decode cX6_letter 12 = .ok (.getfield 9, 3) := by decide +kernel
theorem dX6_letter_15 : decode cX6_letter 15 = .ok (.if_icmp .ge 27, 3) := by decide +kernel
theorem dX6_letter_18 : decode cX6_letter 18 = .ok (.aload_n 0, 1) := by decide +kernel
theorem dX6_letter_19 : decode cX6_letter 19 = .ok (.getfield 26, 3) := by decide +kernel
theorem dX6_letter_22 : decode cX6_letter 22 = .ok (.aload_n 0, 1) := by decide +kernel
theorem dX6_letter_23 : decode cX6_letter 23 = .ok (.getfield 22, 3) := by decide +kernel
theorem dX6_letter_26 : decode cX6_letter 26 = .ok (.arraylength, 1) := by decide +kernel
theorem dX6_letter_27 : decode cX6_letter 27 = .ok (.if_icmp .ge 15, 3) := by decide +kernel
theorem dX6_letter_30 : decode cX6_letter 30 = .ok (.aload_n 0, 1) := by decide +kernel
theorem dX6_letter_31 : decode cX6_letter 31 = .ok (.getfield 22, 3) := by decide +kernel
theorem dX6_letter_34 : decode cX6_letter 34 = .ok (.aload_n 0, 1) := by decide +kernel
theorem dX6_letter_35 : decode cX6_letter 35 = .ok (.getfield 26, 3) := by decide +kernel
theorem dX6_letter_38 : decode cX6_letter 38 = .ok (.iaload, 1) := by decide +kernel
theorem dX6_letter_39 : decode cX6_letter 39 = .ok (.goto 5, 3) := by decide +kernel
theorem dX6_letter_42 : decode cX6_letter 42 = .ok (.bipush (-9), 2) := by decide +kernel
theorem dX6_letter_44 : decode cX6_letter 44 = .ok (.ireturn, 1) := by decide +kernel
theorem dX6_pass_0 : decode cX6_pass 0 = .ok (.aload_n 0, 1) := by decide +kernel
theorem dX6_pass_1 : decode cX6_pass 1 = .ok (.invokevirtual 42, 3) := by decide +kernel
theorem dX6_pass_4 : decode cX6_pass 4 = .ok (.iload_n 1, 1) := by decide +kernel
theorem dX6_pass_5 : decode cX6_pass 5 = .ok (.if_icmp .eq 5, 3) := by decide +kernel
theorem dX6_pass_8 : decode cX6_pass 8 = .ok (.iconst 0, 1) := by decide +kernel
theorem dX6_pass_9 : decode cX6_pass 9 = .ok (.ireturn, 1) := by decide +kernel
theorem dX6_pass_10 : decode cX6_pass 10 = .ok (.aload_n 0, 1) := by decide +kernel
theorem dX6_pass_11 : decode cX6_pass 11 = .ok (.dup, 1) := by decide +kernel
theorem dX6_pass_12 : decode cX6_pass 12 = .ok (.getfield 26, 3) := by decide +kernel
theorem dX6_pass_15 : decode cX6_pass 15 = .ok (.iconst 1, 1) := by decide +kernel
theorem dX6_pass_16 : decode cX6_pass 16 = .ok (.iadd, 1) := by decide +kernel
theorem dX6_pass_17 : decode cX6_pass 17 = .ok (.putfield 26, 3) := by decide +kernel
theorem dX6_pass_20 : decode cX6_pass 20 = .ok (.iconst 1, 1) := by decide +kernel
theorem dX6_pass_21 : decode cX6_pass 21 = .ok (.ireturn, 1) := by decide +kernel
theorem dX6_passDigit_0 : decode cX6_passDigit 0 = .ok (.aload_n 0, 1) := by decide +kernel
theorem dX6_passDigit_1 : decode cX6_passDigit 1 = .ok (.invokevirtual 42, 3) := by decide +kernel
theorem dX6_passDigit_4 : decode cX6_passDigit 4 = .ok (.bipush 48, 2) := by decide +kernel
theorem dX6_passDigit_6 : decode cX6_passDigit 6 = .ok (.isub, 1) := by decide +kernel
theorem dX6_passDigit_7 : decode cX6_passDigit 7 = .ok (.istore_n 3, 1) := by decide +kernel
theorem dX6_passDigit_8 : decode cX6_passDigit 8 = .ok (.iload_n 3, 1) := by decide +kernel
theorem dX6_passDigit_9 : decode cX6_passDigit 9 = .ok (.iload_n 1, 1) := by decide +kernel
theorem dX6_passDigit_10 : decode cX6_passDigit 10 = .ok (.if_icmp .lt 8, 3) := by decide +kernel
theorem dX6_passDigit_13 : decode cX6_passDigit 13 = .ok (.iload_n 3, 1) := by decide +kernel
theorem dX6_passDigit_14 : decode cX6_passDigit 14 = .ok (.iload_n 2, 1) := by decide +kernel
theorem dX6_passDigit_15 : decode cX6_passDigit 15 = .ok (.if_icmp .le 5, 3) := by decide +kernel
theorem dX6_passDigit_18 : decode cX6_passDigit 18 = .ok (.iconst 0, 1) := by decide +kernel
theorem dX6_passDigit_19 : decode cX6_passDigit 19 = .ok (.ireturn, 1) := by decide +kernel
theorem dX6_passDigit_20 : decode cX6_passDigit 20 = .ok (.aload_n 0, 1) := by decide +kernel
theorem dX6_passDigit_21 : decode cX6_passDigit 21 = .ok (.iload_n 3, 1) := by decide +kernel
theorem dX6_passDigit_22 : decode cX6_passDigit 22 = .ok (.putfield 29, 3) := by decide +kernel
theorem dX6_passDigit_25 : decode cX6_passDigit 25 = .ok (.aload_n 0, 1) := by decide +kernel
theorem dX6_passDigit_26 : decode cX6_passDigit 26 = .ok (.dup, 1) := by decide +kernel
theorem dX6_passDigit_27 : decode cX6_passDigit 27 = .ok (.getfield 26, 3) := by decide +kernel
theorem dX6_passDigit_30 : decode cX6_passDigit 30 = .ok (.iconst 1, 1) := by decide +kernel
theorem dX6_passDigit_31 : decode cX6_passDigit 31 = .ok (.iadd, 1) := by decide +kernel
theorem dX6_passDigit_32 : decode cX6_passDigit 32 = .ok (.putfield 26, 3) := by decide +kernel
theorem dX6_passDigit_35 : decode cX6_passDigit 35 = .ok (.iconst 1, 1) := by decide +kernel
theorem dX6_passDigit_36 : decode cX6_passDigit 36 = .ok (.ireturn, 1) := by decide +kernel
theorem dX6_readHead_0 : decode cX6_readHead 0 = .ok (.aload_n 0, 1) := by decide +kernel
theorem dX6_readHead_1 : decode cX6_readHead 1 = .ok (.bipush 78, 2) := by decide +kernel
theorem dX6_readHead_3 : decode cX6_readHead 3 = .ok (.invokevirtual 46, 3) := by decide +kernel
theorem dX6_readHead_6 : decode cX6_readHead 6 = .ok (.ifCond .eq 12, 3) := by decide +kernel
theorem dX6_readHead_9 : decode cX6_readHead 9 = .ok (.aload_n 0, 1) := by decide +kernel
theorem dX6_readHead_10 : decode cX6_readHead 10 = .ok (.iconst 0, 1) := by decide +kernel
theorem dX6_readHead_11 : decode cX6_readHead 11 = .ok (.iconst 1, 1) := by decide +kernel
theorem dX6_readHead_12 : decode cX6_readHead 12 = .ok (.invokevirtual 50, 3) := by decide +kernel
theorem dX6_readHead_15 : decode cX6_readHead 15 = .ok (.ifCond .ne 5, 3) := by decide +kernel
theorem dX6_readHead_18 : decode cX6_readHead 18 = .ok (.iconst 0, 1) := by decide +kernel
theorem dX6_readHead_19 : decode cX6_readHead 19 = .ok (.ireturn, 1) := by decide +kernel
theorem dX6_readHead_20 : decode cX6_readHead 20 = .ok (.aload_n 0, 1) := by decide +kernel
theorem dX6_readHead_21 : decode cX6_readHead 21 = .ok (.getfield 29, 3) := by decide +kernel
theorem dX6_readHead_24 : decode cX6_readHead 24 = .ok (.istore_n 1, 1) := by decide +kernel
theorem dX6_readHead_25 : decode cX6_readHead 25 = .ok (.aload_n 0, 1) := by decide +kernel
theorem dX6_readHead_26 : decode cX6_readHead 26 = .ok (.iload_n 1, 1) := by decide +kernel
theorem dX6_readHead_27 : decode cX6_readHead 27 = .ok (.ifCond .ne 7, 3) := by decide +kernel
theorem dX6_readHead_30 : decode cX6_readHead 30 = .ok (.iconst 4, 1) := by decide +kernel
theorem dX6_readHead_31 : decode cX6_readHead 31 = .ok (.goto 4, 3) := by decide +kernel
theorem dX6_readHead_34 : decode cX6_readHead 34 = .ok (.iconst 0, 1) := by decide +kernel
theorem dX6_readHead_35 : decode cX6_readHead 35 = .ok (.iload_n 1, 1) := by decide +kernel
theorem dX6_readHead_36 : decode cX6_readHead 36 = .ok (.ifCond .ne 8, 3) := by decide +kernel
theorem dX6_readHead_39 : decode cX6_readHead 39 = .ok (.bipush 9, 2) := by decide +kernel
theorem dX6_readHead_41 : decode cX6_readHead 41 = .ok (.goto 5, 3) := by decide +kernel
theorem dX6_readHead_44 : decode cX6_readHead 44 = .ok (.bipush 6, 2) := by decide +kernel
theorem dX6_readHead_46 : decode cX6_readHead 46 = .ok (.invokevirtual 50, 3) := by decide +kernel
theorem dX6_readHead_49 : decode cX6_readHead 49 = .ok (.ifCond .ne 5, 3) := by decide +kernel
theorem dX6_readHead_52 : decode cX6_readHead 52 = .ok (.iconst 0, 1) := by decide +kernel
theorem dX6_readHead_53 : decode cX6_readHead 53 = .ok (.ireturn, 1) := by decide +kernel
theorem dX6_readHead_54 : decode cX6_readHead 54 = .ok (.bipush 10, 2) := by decide +kernel
theorem dX6_readHead_56 : decode cX6_readHead 56 = .ok (.iload_n 1, 1) := by decide +kernel
theorem dX6_readHead_57 : decode cX6_readHead 57 = .ok (.imul, 1) := by decide +kernel
theorem dX6_readHead_58 : decode cX6_readHead 58 = .ok (.aload_n 0, 1) := by decide +kernel
theorem dX6_readHead_59 : decode cX6_readHead 59 = .ok (.getfield 29, 3) := by decide +kernel
theorem dX6_readHead_62 : decode cX6_readHead 62 = .ok (.iadd, 1) := by decide +kernel
theorem dX6_readHead_63 : decode cX6_readHead 63 = .ok (.istore_n 2, 1) := by decide +kernel
theorem dX6_readHead_64 : decode cX6_readHead 64 = .ok (.aload_n 0, 1) := by decide +kernel
theorem dX6_readHead_65 : decode cX6_readHead 65 = .ok (.iconst 1, 1) := by decide +kernel
theorem dX6_readHead_66 : decode cX6_readHead 66 = .ok (.iconst 3, 1) := by decide +kernel
theorem dX6_readHead_67 : decode cX6_readHead 67 = .ok (.invokevirtual 50, 3) := by decide +kernel
theorem dX6_readHead_70 : decode cX6_readHead 70 = .ok (.ifCond .ne 5, 3) := by decide +kernel
theorem dX6_readHead_73 : decode cX6_readHead 73 = .ok (.iconst 0, 1) := by decide +kernel
theorem dX6_readHead_74 : decode cX6_readHead 74 = .ok (.ireturn, 1) := by decide +kernel
theorem dX6_readHead_75 : decode cX6_readHead 75 = .ok (.aload_n 0, 1) := by decide +kernel
theorem dX6_readHead_76 : decode cX6_readHead 76 = .ok (.getfield 18, 3) := by decide +kernel
theorem dX6_readHead_79 : decode cX6_readHead 79 = .ok (.iload_n 2, 1) := by decide +kernel
theorem dX6_readHead_80 : decode cX6_readHead 80 = .ok (.aload_n 0, 1) := by decide +kernel
theorem dX6_readHead_81 : decode cX6_readHead 81 = .ok (.getfield 29, 3) := by decide +kernel
theorem dX6_readHead_84 : decode cX6_readHead 84 = .ok (.invokevirtual 54, 3) := by decide +kernel
theorem dX6_readHead_87 : decode cX6_readHead 87 = .ok (.iconst 1, 1) := by decide +kernel
theorem dX6_readHead_88 : decode cX6_readHead 88 = .ok (.ireturn, 1) := by decide +kernel
theorem dX6_readPart_0 : decode cX6_readPart 0 = .ok (.aload_n 0, 1) := by decide +kernel
theorem dX6_readPart_1 : decode cX6_readPart 1 = .ok (.invokevirtual 42, 3) := by decide +kernel
theorem dX6_readPart_4 : decode cX6_readPart 4 = .ok (.lookupswitch 110 #[(104, 36), (112, 63), (115, 87)], 36) := by decide +kernel
theorem dX6_readPart_40 : decode cX6_readPart 40 = .ok (.aload_n 0, 1) := by decide +kernel
theorem dX6_readPart_41 : decode cX6_readPart 41 = .ok (.getfield 18, 3) := by decide +kernel
theorem dX6_readPart_44 : decode cX6_readPart 44 = .ok (.getfield 58, 3) := by decide +kernel
theorem dX6_readPart_47 : decode cX6_readPart 47 = .ok (.getfield 62, 3) := by decide +kernel
theorem dX6_readPart_50 : decode cX6_readPart 50 = .ok (.iconst 3, 1) := by decide +kernel
theorem dX6_readPart_51 : decode cX6_readPart 51 = .ok (.if_icmp .ge 14, 3) := by decide +kernel
theorem dX6_readPart_54 : decode cX6_readPart 54 = .ok (.aload_n 0, 1) := by decide +kernel
theorem dX6_readPart_55 : decode cX6_readPart 55 = .ok (.invokevirtual 67, 3) := by decide +kernel
theorem dX6_readPart_58 : decode cX6_readPart 58 = .ok (.ifCond .eq 7, 3) := by decide +kernel
theorem dX6_readPart_61 : decode cX6_readPart 61 = .ok (.iconst 1, 1) := by decide +kernel
theorem dX6_readPart_62 : decode cX6_readPart 62 = .ok (.goto 4, 3) := by decide +kernel
theorem dX6_readPart_65 : decode cX6_readPart 65 = .ok (.iconst 0, 1) := by decide +kernel
theorem dX6_readPart_66 : decode cX6_readPart 66 = .ok (.ireturn, 1) := by decide +kernel
theorem dX6_readPart_67 : decode cX6_readPart 67 = .ok (.aload_n 0, 1) := by decide +kernel
theorem dX6_readPart_68 : decode cX6_readPart 68 = .ok (.getfield 18, 3) := by decide +kernel
theorem dX6_readPart_71 : decode cX6_readPart 71 = .ok (.getfield 70, 3) := by decide +kernel
theorem dX6_readPart_74 : decode cX6_readPart 74 = .ok (.iconst 4, 1) := by decide +kernel
theorem dX6_readPart_75 : decode cX6_readPart 75 = .ok (.if_icmp .ge 14, 3) := by decide +kernel
theorem dX6_readPart_78 : decode cX6_readPart 78 = .ok (.aload_n 0, 1) := by decide +kernel
theorem dX6_readPart_79 : decode cX6_readPart 79 = .ok (.invokevirtual 73, 3) := by decide +kernel
theorem dX6_readPart_82 : decode cX6_readPart 82 = .ok (.ifCond .eq 7, 3) := by decide +kernel
theorem dX6_readPart_85 : decode cX6_readPart 85 = .ok (.iconst 1, 1) := by decide +kernel
theorem dX6_readPart_86 : decode cX6_readPart 86 = .ok (.goto 4, 3) := by decide +kernel
theorem dX6_readPart_89 : decode cX6_readPart 89 = .ok (.iconst 0, 1) := by decide +kernel
theorem dX6_readPart_90 : decode cX6_readPart 90 = .ok (.ireturn, 1) := by decide +kernel
theorem dX6_readPart_91 : decode cX6_readPart 91 = .ok (.aload_n 0, 1) := by decide +kernel
theorem dX6_readPart_92 : decode cX6_readPart 92 = .ok (.getfield 18, 3) := by decide +kernel
theorem dX6_readPart_95 : decode cX6_readPart 95 = .ok (.invokevirtual 76, 3) := by decide +kernel
theorem dX6_readPart_98 : decode cX6_readPart 98 = .ok (.ifCond .eq 14, 3) := by decide +kernel
theorem dX6_readPart_101 : decode cX6_readPart 101 = .ok (.aload_n 0, 1) := by decide +kernel
theorem dX6_readPart_102 : decode cX6_readPart 102 = .ok (.invokevirtual 79, 3) := by decide +kernel
theorem dX6_readPart_105 : decode cX6_readPart 105 = .ok (.ifCond .eq 7, 3) := by decide +kernel
theorem dX6_readPart_108 : decode cX6_readPart 108 = .ok (.iconst 1, 1) := by decide +kernel
theorem dX6_readPart_109 : decode cX6_readPart 109 = .ok (.goto 4, 3) := by decide +kernel
theorem dX6_readPart_112 : decode cX6_readPart 112 = .ok (.iconst 0, 1) := by decide +kernel
theorem dX6_readPart_113 : decode cX6_readPart 113 = .ok (.ireturn, 1) := by decide +kernel
theorem dX6_readPart_114 : decode cX6_readPart 114 = .ok (.iconst 0, 1) := by decide +kernel
theorem dX6_readPart_115 : decode cX6_readPart 115 = .ok (.ireturn, 1) := by decide +kernel
theorem dX6_readFamily_0 : decode cX6_readFamily 0 = .ok (.aload_n 0, 1) := by decide +kernel
theorem dX6_readFamily_1 : decode cX6_readFamily 1 = .ok (.bipush 104, 2) := by decide +kernel
theorem dX6_readFamily_3 : decode cX6_readFamily 3 = .ok (.invokevirtual 46, 3) := by decide +kernel
theorem dX6_readFamily_6 : decode cX6_readFamily 6 = .ok (.ifCond .eq 13, 3) := by decide +kernel
theorem dX6_readFamily_9 : decode cX6_readFamily 9 = .ok (.aload_n 0, 1) := by decide +kernel
theorem dX6_readFamily_10 : decode cX6_readFamily 10 = .ok (.iconst 1, 1) := by decide +kernel
theorem dX6_readFamily_11 : decode cX6_readFamily 11 = .ok (.bipush 9, 2) := by decide +kernel
theorem dX6_readFamily_13 : decode cX6_readFamily 13 = .ok (.invokevirtual 50, 3) := by decide +kernel
theorem dX6_readFamily_16 : decode cX6_readFamily 16 = .ok (.ifCond .ne 5, 3) := by decide +kernel
theorem dX6_readFamily_19 : decode cX6_readFamily 19 = .ok (.iconst 0, 1) := by decide +kernel
theorem dX6_readFamily_20 : decode cX6_readFamily 20 = .ok (.ireturn, 1) := by decide +kernel
theorem dX6_readFamily_21 : decode cX6_readFamily 21 = .ok (.aload_n 0, 1) := by decide +kernel
theorem dX6_readFamily_22 : decode cX6_readFamily 22 = .ok (.getfield 29, 3) := by decide +kernel
theorem dX6_readFamily_25 : decode cX6_readFamily 25 = .ok (.istore_n 1, 1) := by decide +kernel
theorem dX6_readFamily_26 : decode cX6_readFamily 26 = .ok (.aload_n 0, 1) := by decide +kernel
theorem dX6_readFamily_27 : decode cX6_readFamily 27 = .ok (.iconst 0, 1) := by decide +kernel
theorem dX6_readFamily_28 : decode cX6_readFamily 28 = .ok (.bipush 9, 2) := by decide +kernel
theorem dX6_readFamily_30 : decode cX6_readFamily 30 = .ok (.invokevirtual 50, 3) := by decide +kernel
theorem dX6_readFamily_33 : decode cX6_readFamily 33 = .ok (.ifCond .ne 5, 3) := by decide +kernel
theorem dX6_readFamily_36 : decode cX6_readFamily 36 = .ok (.iconst 0, 1) := by decide +kernel
theorem dX6_readFamily_37 : decode cX6_readFamily 37 = .ok (.ireturn, 1) := by decide +kernel
theorem dX6_readFamily_38 : decode cX6_readFamily 38 = .ok (.aload_n 0, 1) := by decide +kernel
theorem dX6_readFamily_39 : decode cX6_readFamily 39 = .ok (.getfield 18, 3) := by decide +kernel
theorem dX6_readFamily_42 : decode cX6_readFamily 42 = .ok (.getfield 58, 3) := by decide +kernel
theorem dX6_readFamily_45 : decode cX6_readFamily 45 = .ok (.iload_n 1, 1) := by decide +kernel
theorem dX6_readFamily_46 : decode cX6_readFamily 46 = .ok (.aload_n 0, 1) := by decide +kernel
theorem dX6_readFamily_47 : decode cX6_readFamily 47 = .ok (.getfield 29, 3) := by decide +kernel
theorem dX6_readFamily_50 : decode cX6_readFamily 50 = .ok (.invokevirtual 82, 3) := by decide +kernel
theorem dX6_readFamily_53 : decode cX6_readFamily 53 = .ok (.iconst 1, 1) := by decide +kernel
theorem dX6_readFamily_54 : decode cX6_readFamily 54 = .ok (.ireturn, 1) := by decide +kernel
theorem dX6_readProxy_0 : decode cX6_readProxy 0 = .ok (.aload_n 0, 1) := by decide +kernel
theorem dX6_readProxy_1 : decode cX6_readProxy 1 = .ok (.bipush 112, 2) := by decide +kernel
theorem dX6_readProxy_3 : decode cX6_readProxy 3 = .ok (.invokevirtual 46, 3) := by decide +kernel
theorem dX6_readProxy_6 : decode cX6_readProxy 6 = .ok (.ifCond .eq 13, 3) := by decide +kernel
theorem dX6_readProxy_9 : decode cX6_readProxy 9 = .ok (.aload_n 0, 1) := by decide +kernel
theorem dX6_readProxy_10 : decode cX6_readProxy 10 = .ok (.iconst 1, 1) := by decide +kernel
theorem dX6_readProxy_11 : decode cX6_readProxy 11 = .ok (.bipush 9, 2) := by decide +kernel
theorem dX6_readProxy_13 : decode cX6_readProxy 13 = .ok (.invokevirtual 50, 3) := by decide +kernel
theorem dX6_readProxy_16 : decode cX6_readProxy 16 = .ok (.ifCond .ne 5, 3) := by decide +kernel
theorem dX6_readProxy_19 : decode cX6_readProxy 19 = .ok (.iconst 0, 1) := by decide +kernel
theorem dX6_readProxy_20 : decode cX6_readProxy 20 = .ok (.ireturn, 1) := by decide +kernel
theorem dX6_readProxy_21 : decode cX6_readProxy 21 = .ok (.aload_n 0, 1) := by decide +kernel
theorem dX6_readProxy_22 : decode cX6_readProxy 22 = .ok (.getfield 29, 3) := by decide +kernel
theorem dX6_readProxy_25 : decode cX6_readProxy 25 = .ok (.istore_n 1, 1) := by decide +kernel
theorem dX6_readProxy_26 : decode cX6_readProxy 26 = .ok (.aload_n 0, 1) := by decide +kernel
theorem dX6_readProxy_27 : decode cX6_readProxy 27 = .ok (.iconst 1, 1) := by decide +kernel
theorem dX6_readProxy_28 : decode cX6_readProxy 28 = .ok (.bipush 9, 2) := by decide +kernel
theorem dX6_readProxy_30 : decode cX6_readProxy 30 = .ok (.invokevirtual 50, 3) := by decide +kernel
theorem dX6_readProxy_33 : decode cX6_readProxy 33 = .ok (.ifCond .ne 5, 3) := by decide +kernel
theorem dX6_readProxy_36 : decode cX6_readProxy 36 = .ok (.iconst 0, 1) := by decide +kernel
theorem dX6_readProxy_37 : decode cX6_readProxy 37 = .ok (.ireturn, 1) := by decide +kernel
theorem dX6_readProxy_38 : decode cX6_readProxy 38 = .ok (.aload_n 0, 1) := by decide +kernel
theorem dX6_readProxy_39 : decode cX6_readProxy 39 = .ok (.getfield 18, 3) := by decide +kernel
theorem dX6_readProxy_42 : decode cX6_readProxy 42 = .ok (.iload_n 1, 1) := by decide +kernel
theorem dX6_readProxy_43 : decode cX6_readProxy 43 = .ok (.aload_n 0, 1) := by decide +kernel
theorem dX6_readProxy_44 : decode cX6_readProxy 44 = .ok (.getfield 29, 3) := by decide +kernel
theorem dX6_readProxy_47 : decode cX6_readProxy 47 = .ok (.invokevirtual 85, 3) := by decide +kernel
theorem dX6_readProxy_50 : decode cX6_readProxy 50 = .ok (.iconst 1, 1) := by decide +kernel
theorem dX6_readProxy_51 : decode cX6_readProxy 51 = .ok (.ireturn, 1) := by decide +kernel
theorem dX6_readShelved_0 : decode cX6_readShelved 0 = .ok (.aload_n 0, 1) := by decide +kernel
theorem dX6_readShelved_1 : decode cX6_readShelved 1 = .ok (.bipush 115, 2) := by decide +kernel
theorem dX6_readShelved_3 : decode cX6_readShelved 3 = .ok (.invokevirtual 46, 3) := by decide +kernel
theorem dX6_readShelved_6 : decode cX6_readShelved 6 = .ok (.ifCond .ne 5, 3) := by decide +kernel
theorem dX6_readShelved_9 : decode cX6_readShelved 9 = .ok (.iconst 0, 1) := by decide +kernel
theorem dX6_readShelved_10 : decode cX6_readShelved 10 = .ok (.ireturn, 1) := by decide +kernel
theorem dX6_readShelved_11 : decode cX6_readShelved 11 = .ok (.aload_n 0, 1) := by decide +kernel
theorem dX6_readShelved_12 : decode cX6_readShelved 12 = .ok (.getfield 18, 3) := by decide +kernel
theorem dX6_readShelved_15 : decode cX6_readShelved 15 = .ok (.aload_n 0, 1) := by decide +kernel
theorem dX6_readShelved_16 : decode cX6_readShelved 16 = .ok (.invokevirtual 42, 3) := by decide +kernel
theorem dX6_readShelved_19 : decode cX6_readShelved 19 = .ok (.bipush 48, 2) := by decide +kernel
theorem dX6_readShelved_21 : decode cX6_readShelved 21 = .ok (.isub, 1) := by decide +kernel
theorem dX6_readShelved_22 : decode cX6_readShelved 22 = .ok (.invokevirtual 88, 3) := by decide +kernel
theorem dX6_readShelved_25 : decode cX6_readShelved 25 = .ok (.astore_n 1, 1) := by decide +kernel
theorem dX6_readShelved_26 : decode cX6_readShelved 26 = .ok (.aload_n 1, 1) := by decide +kernel
theorem dX6_readShelved_27 : decode cX6_readShelved 27 = .ok (.ifnull 10, 3) := by decide +kernel
theorem dX6_readShelved_30 : decode cX6_readShelved 30 = .ok (.aload_n 1, 1) := by decide +kernel
theorem dX6_readShelved_31 : decode cX6_readShelved 31 = .ok (.invokevirtual 92, 3) := by decide +kernel
theorem dX6_readShelved_34 : decode cX6_readShelved 34 = .ok (.ifCond .ne 5, 3) := by decide +kernel
theorem dX6_readShelved_37 : decode cX6_readShelved 37 = .ok (.iconst 0, 1) := by decide +kernel
theorem dX6_readShelved_38 : decode cX6_readShelved 38 = .ok (.ireturn, 1) := by decide +kernel
theorem dX6_readShelved_39 : decode cX6_readShelved 39 = .ok (.aload_n 0, 1) := by decide +kernel
theorem dX6_readShelved_40 : decode cX6_readShelved 40 = .ok (.dup, 1) := by decide +kernel
theorem dX6_readShelved_41 : decode cX6_readShelved 41 = .ok (.getfield 26, 3) := by decide +kernel
theorem dX6_readShelved_44 : decode cX6_readShelved 44 = .ok (.iconst 1, 1) := by decide +kernel
theorem dX6_readShelved_45 : decode cX6_readShelved 45 = .ok (.iadd, 1) := by decide +kernel
theorem dX6_readShelved_46 : decode cX6_readShelved 46 = .ok (.putfield 26, 3) := by decide +kernel
theorem dX6_readShelved_49 : decode cX6_readShelved 49 = .ok (.aload_n 0, 1) := by decide +kernel
theorem dX6_readShelved_50 : decode cX6_readShelved 50 = .ok (.invokevirtual 42, 3) := by decide +kernel
theorem dX6_readShelved_53 : decode cX6_readShelved 53 = .ok (.bipush 48, 2) := by decide +kernel
theorem dX6_readShelved_55 : decode cX6_readShelved 55 = .ok (.isub, 1) := by decide +kernel
theorem dX6_readShelved_56 : decode cX6_readShelved 56 = .ok (.istore_n 2, 1) := by decide +kernel
theorem dX6_readShelved_57 : decode cX6_readShelved 57 = .ok (.aload_n 1, 1) := by decide +kernel
theorem dX6_readShelved_58 : decode cX6_readShelved 58 = .ok (.iload_n 2, 1) := by decide +kernel
theorem dX6_readShelved_59 : decode cX6_readShelved 59 = .ok (.invokestatic 97, 3) := by decide +kernel
theorem dX6_readShelved_62 : decode cX6_readShelved 62 = .ok (.ifCond .ne 5, 3) := by decide +kernel
theorem dX6_readShelved_65 : decode cX6_readShelved 65 = .ok (.iconst 0, 1) := by decide +kernel
theorem dX6_readShelved_66 : decode cX6_readShelved 66 = .ok (.ireturn, 1) := by decide +kernel
theorem dX6_readShelved_67 : decode cX6_readShelved 67 = .ok (.aload_n 0, 1) := by decide +kernel
theorem dX6_readShelved_68 : decode cX6_readShelved 68 = .ok (.dup, 1) := by decide +kernel
theorem dX6_readShelved_69 : decode cX6_readShelved 69 = .ok (.getfield 26, 3) := by decide +kernel
theorem dX6_readShelved_72 : decode cX6_readShelved 72 = .ok (.iconst 1, 1) := by decide +kernel
theorem dX6_readShelved_73 : decode cX6_readShelved 73 = .ok (.iadd, 1) := by decide +kernel
theorem dX6_readShelved_74 : decode cX6_readShelved 74 = .ok (.putfield 26, 3) := by decide +kernel
theorem dX6_readShelved_77 : decode cX6_readShelved 77 = .ok (.bipush 10, 2) := by decide +kernel
theorem dX6_readShelved_79 : decode cX6_readShelved 79 = .ok (.iload_n 2, 1) := by decide +kernel
theorem dX6_readShelved_80 : decode cX6_readShelved 80 = .ok (.imul, 1) := by decide +kernel
theorem dX6_readShelved_81 : decode cX6_readShelved 81 = .ok (.aload_n 0, 1) := by decide +kernel
theorem dX6_readShelved_82 : decode cX6_readShelved 82 = .ok (.invokevirtual 42, 3) := by decide +kernel
theorem dX6_readShelved_85 : decode cX6_readShelved 85 = .ok (.iadd, 1) := by decide +kernel
theorem dX6_readShelved_86 : decode cX6_readShelved 86 = .ok (.bipush 48, 2) := by decide +kernel
theorem dX6_readShelved_88 : decode cX6_readShelved 88 = .ok (.isub, 1) := by decide +kernel
theorem dX6_readShelved_89 : decode cX6_readShelved 89 = .ok (.istore_n 3, 1) := by decide +kernel
theorem dX6_readShelved_90 : decode cX6_readShelved 90 = .ok (.iload_n 3, 1) := by decide +kernel
theorem dX6_readShelved_91 : decode cX6_readShelved 91 = .ok (.invokestatic 101, 3) := by decide +kernel
theorem dX6_readShelved_94 : decode cX6_readShelved 94 = .ok (.ifCond .eq 21, 3) := by decide +kernel
theorem dX6_readShelved_97 : decode cX6_readShelved 97 = .ok (.aload_n 1, 1) := by decide +kernel
theorem dX6_readShelved_98 : decode cX6_readShelved 98 = .ok (.iload_n 3, 1) := by decide +kernel
theorem dX6_readShelved_99 : decode cX6_readShelved 99 = .ok (.invokevirtual 104, 3) := by decide +kernel
theorem dX6_readShelved_102 : decode cX6_readShelved 102 = .ok (.ifCond .ne 13, 3) := by decide +kernel
theorem dX6_readShelved_105 : decode cX6_readShelved 105 = .ok (.aload_n 0, 1) := by decide +kernel
theorem dX6_readShelved_106 : decode cX6_readShelved 106 = .ok (.iconst 0, 1) := by decide +kernel
theorem dX6_readShelved_107 : decode cX6_readShelved 107 = .ok (.bipush 9, 2) := by decide +kernel
theorem dX6_readShelved_109 : decode cX6_readShelved 109 = .ok (.invokevirtual 50, 3) := by decide +kernel
theorem dX6_readShelved_112 : decode cX6_readShelved 112 = .ok (.ifCond .ne 5, 3) := by decide +kernel
theorem dX6_readShelved_115 : decode cX6_readShelved 115 = .ok (.iconst 0, 1) := by decide +kernel
theorem dX6_readShelved_116 : decode cX6_readShelved 116 = .ok (.ireturn, 1) := by decide +kernel
theorem dX6_readShelved_117 : decode cX6_readShelved 117 = .ok (.aload_n 1, 1) := by decide +kernel
theorem dX6_readShelved_118 : decode cX6_readShelved 118 = .ok (.iload_n 3, 1) := by decide +kernel
theorem dX6_readShelved_119 : decode cX6_readShelved 119 = .ok (.invokevirtual 107, 3) := by decide +kernel
theorem dX6_readShelved_122 : decode cX6_readShelved 122 = .ok (.iconst 1, 1) := by decide +kernel
theorem dX6_readShelved_123 : decode cX6_readShelved 123 = .ok (.ireturn, 1) := by decide +kernel
theorem dX6_mayBegin_0 : decode cX6_mayBegin 0 = .ok (.iload_n 1, 1) := by decide +kernel
theorem dX6_mayBegin_1 : decode cX6_mayBegin 1 = .ok (.ifCond .lt 9, 3) := by decide +kernel
theorem dX6_mayBegin_4 : decode cX6_mayBegin 4 = .ok (.iload_n 1, 1) := by decide +kernel
theorem dX6_mayBegin_5 : decode cX6_mayBegin 5 = .ok (.bipush 9, 2) := by decide +kernel
theorem dX6_mayBegin_7 : decode cX6_mayBegin 7 = .ok (.if_icmp .le 5, 3) := by decide +kernel
theorem dX6_mayBegin_10 : decode cX6_mayBegin 10 = .ok (.iconst 0, 1) := by decide +kernel
theorem dX6_mayBegin_11 : decode cX6_mayBegin 11 = .ok (.ireturn, 1) := by decide +kernel
theorem dX6_mayBegin_12 : decode cX6_mayBegin 12 = .ok (.bipush 10, 2) := by decide +kernel
theorem dX6_mayBegin_14 : decode cX6_mayBegin 14 = .ok (.iload_n 1, 1) := by decide +kernel
theorem dX6_mayBegin_15 : decode cX6_mayBegin 15 = .ok (.imul, 1) := by decide +kernel
theorem dX6_mayBegin_16 : decode cX6_mayBegin 16 = .ok (.istore_n 2, 1) := by decide +kernel
theorem dX6_mayBegin_17 : decode cX6_mayBegin 17 = .ok (.iload_n 2, 1) := by decide +kernel
theorem dX6_mayBegin_18 : decode cX6_mayBegin 18 = .ok (.bipush 10, 2) := by decide +kernel
theorem dX6_mayBegin_20 : decode cX6_mayBegin 20 = .ok (.iload_n 1, 1) := by decide +kernel
theorem dX6_mayBegin_21 : decode cX6_mayBegin 21 = .ok (.imul, 1) := by decide +kernel
theorem dX6_mayBegin_22 : decode cX6_mayBegin 22 = .ok (.bipush 10, 2) := by decide +kernel
theorem dX6_mayBegin_24 : decode cX6_mayBegin 24 = .ok (.iadd, 1) := by decide +kernel
theorem dX6_mayBegin_25 : decode cX6_mayBegin 25 = .ok (.if_icmp .ge 26, 3) := by decide +kernel
theorem dX6_mayBegin_28 : decode cX6_mayBegin 28 = .ok (.iload_n 2, 1) := by decide +kernel
theorem dX6_mayBegin_29 : decode cX6_mayBegin 29 = .ok (.invokestatic 101, 3) := by decide +kernel
theorem dX6_mayBegin_32 : decode cX6_mayBegin 32 = .ok (.ifCond .eq 13, 3) := by decide +kernel
theorem dX6_mayBegin_35 : decode cX6_mayBegin 35 = .ok (.aload_n 0, 1) := by decide +kernel
theorem dX6_mayBegin_36 : decode cX6_mayBegin 36 = .ok (.iload_n 2, 1) := by decide +kernel
theorem dX6_mayBegin_37 : decode cX6_mayBegin 37 = .ok (.invokevirtual 104, 3) := by decide +kernel
theorem dX6_mayBegin_40 : decode cX6_mayBegin 40 = .ok (.ifCond .ne 5, 3) := by decide +kernel
theorem dX6_mayBegin_43 : decode cX6_mayBegin 43 = .ok (.iconst 1, 1) := by decide +kernel
theorem dX6_mayBegin_44 : decode cX6_mayBegin 44 = .ok (.ireturn, 1) := by decide +kernel
theorem dX6_mayBegin_45 : decode cX6_mayBegin 45 = .ok (.iinc 2 1, 3) := by decide +kernel
theorem dX6_mayBegin_48 : decode cX6_mayBegin 48 = .ok (.goto (-31), 3) := by decide +kernel
theorem dX6_mayBegin_51 : decode cX6_mayBegin 51 = .ok (.iconst 0, 1) := by decide +kernel
theorem dX6_mayBegin_52 : decode cX6_mayBegin 52 = .ok (.ireturn, 1) := by decide +kernel
theorem dX7_init_0 : decode cX7_init 0 = .ok (.aload_n 0, 1) := by decide +kernel
theorem dX7_init_1 : decode cX7_init 1 = .ok (.invokespecial 1, 3) := by decide +kernel
theorem dX7_init_4 : decode cX7_init 4 = .ok (.aload_n 0, 1) := by decide +kernel
theorem dX7_init_5 : decode cX7_init 5 = .ok (.new 7, 3) := by decide +kernel
theorem dX7_init_8 : decode cX7_init 8 = .ok (.dup, 1) := by decide +kernel
theorem dX7_init_9 : decode cX7_init 9 = .ok (.invokespecial 9, 3) := by decide +kernel
theorem dX7_init_12 : decode cX7_init 12 = .ok (.putfield 10, 3) := by decide +kernel
theorem dX7_init_15 : decode cX7_init 15 = .ok (.aload_n 0, 1) := by decide +kernel
theorem dX7_init_16 : decode cX7_init 16 = .ok (.new 16, 3) := by decide +kernel
theorem dX7_init_19 : decode cX7_init 19 = .ok (.dup, 1) := by decide +kernel
theorem dX7_init_20 : decode cX7_init 20 = .ok (.invokespecial 18, 3) := by decide +kernel
theorem dX7_init_23 : decode cX7_init 23 = .ok (.putfield 19, 3) := by decide +kernel
theorem dX7_init_26 : decode cX7_init 26 = .ok (.aload_n 0, 1) := by decide +kernel
theorem dX7_init_27 : decode cX7_init 27 = .ok (.new 16, 3) := by decide +kernel
theorem dX7_init_30 : decode cX7_init 30 = .ok (.dup, 1) := by decide +kernel
theorem dX7_init_31 : decode cX7_init 31 = .ok (.invokespecial 18, 3) := by decide +kernel
theorem dX7_init_34 : decode cX7_init 34 = .ok (.putfield 23, 3) := by decide +kernel
theorem dX7_init_37 : decode cX7_init 37 = .ok (.aload_n 0, 1) := by decide +kernel
theorem dX7_init_38 : decode cX7_init 38 = .ok (.new 26, 3) := by decide +kernel
theorem dX7_init_41 : decode cX7_init 41 = .ok (.dup, 1) := by decide +kernel
theorem dX7_init_42 : decode cX7_init 42 = .ok (.invokespecial 28, 3) := by decide +kernel
theorem dX7_init_45 : decode cX7_init 45 = .ok (.putfield 29, 3) := by decide +kernel
theorem dX7_init_48 : decode cX7_init 48 = .ok (.aload_n 0, 1) := by decide +kernel
theorem dX7_init_49 : decode cX7_init 49 = .ok (.iconst 2, 1) := by decide +kernel
theorem dX7_init_50 : decode cX7_init 50 = .ok (.anewarray 16, 3) := by decide +kernel
theorem dX7_init_53 : decode cX7_init 53 = .ok (.putfield 33, 3) := by decide +kernel
theorem dX7_init_56 : decode cX7_init 56 = .ok (.aload_n 0, 1) := by decide +kernel
theorem dX7_init_57 : decode cX7_init 57 = .ok (.iconst 2, 1) := by decide +kernel
theorem dX7_init_58 : decode cX7_init 58 = .ok (.newarray .boolean, 2) := by decide +kernel
theorem dX7_init_60 : decode cX7_init 60 = .ok (.putfield 37, 3) := by decide +kernel
theorem dX7_init_63 : decode cX7_init 63 = .ok (.aload_n 0, 1) := by decide +kernel
theorem dX7_init_64 : decode cX7_init 64 = .ok (.new 41, 3) := by decide +kernel
theorem dX7_init_67 : decode cX7_init 67 = .ok (.dup, 1) := by decide +kernel
theorem dX7_init_68 : decode cX7_init 68 = .ok (.invokespecial 43, 3) := by decide +kernel
theorem dX7_init_71 : decode cX7_init 71 = .ok (.putfield 44, 3) := by decide +kernel
theorem dX7_init_74 : decode cX7_init 74 = .ok (.aload_n 0, 1) := by decide +kernel
theorem dX7_init_75 : decode cX7_init 75 = .ok (.new 48, 3) := by decide +kernel
theorem dX7_init_78 : decode cX7_init 78 = .ok (.dup, 1) := by decide +kernel
theorem dX7_init_79 : decode cX7_init 79 = .ok (.invokespecial 50, 3) := by decide +kernel
theorem dX7_init_82 : decode cX7_init 82 = .ok (.putfield 51, 3) := by decide +kernel
theorem dX7_init_85 : decode cX7_init 85 = .ok (.aload_n 0, 1) := by decide +kernel
theorem dX7_init_86 : decode cX7_init 86 = .ok (.new 48, 3) := by decide +kernel
theorem dX7_init_89 : decode cX7_init 89 = .ok (.dup, 1) := by decide +kernel
theorem dX7_init_90 : decode cX7_init 90 = .ok (.invokespecial 50, 3) := by decide +kernel
theorem dX7_init_93 : decode cX7_init 93 = .ok (.putfield 55, 3) := by decide +kernel
theorem dX7_init_96 : decode cX7_init 96 = .ok (.aload_n 0, 1) := by decide +kernel
theorem dX7_init_97 : decode cX7_init 97 = .ok (.lconst 0, 1) := by decide +kernel
theorem dX7_init_98 : decode cX7_init 98 = .ok (.putfield 58, 3) := by decide +kernel
theorem dX7_init_101 : decode cX7_init 101 = .ok (.iconst 0, 1) := by decide +kernel
theorem dX7_init_102 : decode cX7_init 102 = .ok (.istore_n 1, 1) := by decide +kernel
theorem dX7_init_103 : decode cX7_init 103 = .ok (.iload_n 1, 1) := by decide +kernel
theorem dX7_init_104 : decode cX7_init 104 = .ok (.aload_n 0, 1) := by decide +kernel
theorem dX7_init_105 : decode cX7_init 105 = .ok (.getfield 33, 3) := by decide +kernel
theorem dX7_init_108 : decode cX7_init 108 = .ok (.arraylength, 1) := by decide +kernel
theorem dX7_init_109 : decode cX7_init 109 = .ok (.if_icmp .ge 22, 3) := by decide +kernel
theorem dX7_init_112 : decode cX7_init 112 = .ok (.aload_n 0, 1) := by decide +kernel
theorem dX7_init_113 : decode cX7_init 113 = .ok (.getfield 33, 3) := by decide +kernel
theorem dX7_init_116 : decode cX7_init 116 = .ok (.iload_n 1, 1) := by decide +kernel
theorem dX7_init_117 : decode cX7_init 117 = .ok (.new 16, 3) := by decide +kernel
theorem dX7_init_120 : decode cX7_init 120 = .ok (.dup, 1) := by decide +kernel
theorem dX7_init_121 : decode cX7_init 121 = .ok (.invokespecial 18, 3) := by decide +kernel
theorem dX7_init_124 : decode cX7_init 124 = .ok (.aastore, 1) := by decide +kernel
theorem dX7_init_125 : decode cX7_init 125 = .ok (.iinc 1 1, 3) := by decide +kernel
theorem dX7_init_128 : decode cX7_init 128 = .ok (.goto (-25), 3) := by decide +kernel
theorem dX7_init_131 : decode cX7_init 131 = .ok (.aload_n 0, 1) := by decide +kernel
theorem dX7_init_132 : decode cX7_init 132 = .ok (.getfield 19, 3) := by decide +kernel
theorem dX7_init_135 : decode cX7_init 135 = .ok (.bipush 8, 2) := by decide +kernel
theorem dX7_init_137 : decode cX7_init 137 = .ok (.iconst 2, 1) := by decide +kernel
theorem dX7_init_138 : decode cX7_init 138 = .ok (.invokevirtual 62, 3) := by decide +kernel
theorem dX7_init_141 : decode cX7_init 141 = .ok (.aload_n 0, 1) := by decide +kernel
theorem dX7_init_142 : decode cX7_init 142 = .ok (.getfield 19, 3) := by decide +kernel
theorem dX7_init_145 : decode cX7_init 145 = .ok (.invokevirtual 66, 3) := by decide +kernel
theorem dX7_init_148 : decode cX7_init 148 = .ok (.return_, 1) := by decide +kernel
theorem dX7_write_0 : decode cX7_write 0 = .ok (.iload_n 1, 1) := by decide +kernel
theorem dX7_write_1 : decode cX7_write 1 = .ok (.ifCond .lt 10, 3) := by decide +kernel
theorem dX7_write_4 : decode cX7_write 4 = .ok (.iload_n 1, 1) := by decide +kernel
theorem dX7_write_5 : decode cX7_write 5 = .ok (.sipush 255, 3) := by decide +kernel
theorem dX7_write_8 : decode cX7_write 8 = .ok (.if_icmp .le 6, 3) := by decide +kernel
theorem dX7_write_11 : decode cX7_write 11 = .ok (.bipush (-2), 2) := by decide +kernel
theorem dX7_write_13 : decode cX7_write 13 = .ok (.ireturn, 1) := by decide +kernel
theorem dX7_write_14 : decode cX7_write 14 = .ok (.aload_n 0, 1) := by decide +kernel
theorem dX7_write_15 : decode cX7_write 15 = .ok (.getfield 10, 3) := by decide +kernel
theorem dX7_write_18 : decode cX7_write 18 = .ok (.iload_n 1, 1) := by decide +kernel
theorem dX7_write_19 : decode cX7_write 19 = .ok (.invokevirtual 69, 3) := by decide +kernel
theorem dX7_write_22 : decode cX7_write 22 = .ok (.ifCond .eq 13, 3) := by decide +kernel
theorem dX7_write_25 : decode cX7_write 25 = .ok (.aload_n 0, 1) := by decide +kernel
theorem dX7_write_26 : decode cX7_write 26 = .ok (.getfield 10, 3) := by decide +kernel
theorem dX7_write_29 : decode cX7_write 29 = .ok (.getfield 73, 3) := by decide +kernel
theorem dX7_write_32 : decode cX7_write 32 = .ok (.goto 5, 3) := by decide +kernel
theorem dX7_write_35 : decode cX7_write 35 = .ok (.bipush (-4), 2) := by decide +kernel
theorem dX7_write_37 : decode cX7_write 37 = .ok (.ireturn, 1) := by decide +kernel
theorem dX7_wipe_0 : decode cX7_wipe 0 = .ok (.aload_n 0, 1) := by decide +kernel
theorem dX7_wipe_1 : decode cX7_wipe 1 = .ok (.getfield 10, 3) := by decide +kernel
theorem dX7_wipe_4 : decode cX7_wipe 4 = .ok (.getfield 73, 3) := by decide +kernel
theorem dX7_wipe_7 : decode cX7_wipe 7 = .ok (.istore_n 1, 1) := by decide +kernel
theorem dX7_wipe_8 : decode cX7_wipe 8 = .ok (.aload_n 0, 1) := by decide +kernel
theorem dX7_wipe_9 : decode cX7_wipe 9 = .ok (.getfield 10, 3) := by decide +kernel
theorem dX7_wipe_12 : decode cX7_wipe 12 = .ok (.iconst 0, 1) := by decide +kernel
theorem dX7_wipe_13 : decode cX7_wipe 13 = .ok (.putfield 73, 3) := by decide +kernel
theorem dX7_wipe_16 : decode cX7_wipe 16 = .ok (.iload_n 1, 1) := by decide +kernel
theorem dX7_wipe_17 : decode cX7_wipe 17 = .ok (.ireturn, 1) := by decide +kernel
theorem dX7_fault_0 : decode cX7_fault 0 = .ok (.aload_n 0, 1) := by decide +kernel
theorem dX7_fault_1 : decode cX7_fault 1 = .ok (.getfield 10, 3) := by decide +kernel
theorem dX7_fault_4 : decode cX7_fault 4 = .ok (.invokevirtual 77, 3) := by decide +kernel
theorem dX7_fault_7 : decode cX7_fault 7 = .ok (.ireturn, 1) := by decide +kernel
theorem dX7_net_0 : decode cX7_net 0 = .ok (.aload_n 0, 1) := by decide +kernel
theorem dX7_net_1 : decode cX7_net 1 = .ok (.getfield 10, 3) := by decide +kernel
theorem dX7_net_4 : decode cX7_net 4 = .ok (.invokevirtual 77, 3) := by decide +kernel
theorem dX7_net_7 : decode cX7_net 7 = .ok (.bipush (-9), 2) := by decide +kernel
theorem dX7_net_9 : decode cX7_net 9 = .ok (.if_icmp .eq 6, 3) := by decide +kernel
theorem dX7_net_12 : decode cX7_net 12 = .ok (.bipush (-3), 2) := by decide +kernel
theorem dX7_net_14 : decode cX7_net 14 = .ok (.ireturn, 1) := by decide +kernel
theorem dX7_net_15 : decode cX7_net 15 = .ok (.aload_n 0, 1) := by decide +kernel
theorem dX7_net_16 : decode cX7_net 16 = .ok (.getfield 19, 3) := by decide +kernel
theorem dX7_net_19 : decode cX7_net 19 = .ok (.aload_n 0, 1) := by decide +kernel
theorem dX7_net_20 : decode cX7_net 20 = .ok (.getfield 10, 3) := by decide +kernel
theorem dX7_net_23 : decode cX7_net 23 = .ok (.getfield 81, 3) := by decide +kernel
theorem dX7_net_26 : decode cX7_net 26 = .ok (.invokevirtual 84, 3) := by decide +kernel
theorem dX7_net_29 : decode cX7_net 29 = .ok (.aload_n 0, 1) := by decide +kernel
theorem dX7_net_30 : decode cX7_net 30 = .ok (.getfield 29, 3) := by decide +kernel
theorem dX7_net_33 : decode cX7_net 33 = .ok (.invokevirtual 88, 3) := by decide +kernel
theorem dX7_net_36 : decode cX7_net 36 = .ok (.iconst 0, 1) := by decide +kernel
theorem dX7_net_37 : decode cX7_net 37 = .ok (.istore_n 1, 1) := by decide +kernel
theorem dX7_net_38 : decode cX7_net 38 = .ok (.iload_n 1, 1) := by decide +kernel
theorem dX7_net_39 : decode cX7_net 39 = .ok (.aload_n 0, 1) := by decide +kernel
theorem dX7_net_40 : decode cX7_net 40 = .ok (.getfield 37, 3) := by decide +kernel
theorem dX7_net_43 : decode cX7_net 43 = .ok (.arraylength, 1) := by decide +kernel
theorem dX7_net_44 : decode cX7_net 44 = .ok (.if_icmp .ge 16, 3) := by decide +kernel
theorem dX7_net_47 : decode cX7_net 47 = .ok (.aload_n 0, 1) := by decide +kernel
theorem dX7_net_48 : decode cX7_net 48 = .ok (.getfield 37, 3) := by decide +kernel
theorem dX7_net_51 : decode cX7_net 51 = .ok (.iload_n 1, 1) := by decide +kernel
theorem dX7_net_52 : decode cX7_net 52 = .ok (.iconst 0, 1) := by decide +kernel
theorem dX7_net_53 : decode cX7_net 53 = .ok (.bastore, 1) := by decide +kernel
theorem dX7_net_54 : decode cX7_net 54 = .ok (.iinc 1 1, 3) := by decide +kernel
theorem dX7_net_57 : decode cX7_net 57 = .ok (.goto (-19), 3) := by decide +kernel
theorem dX7_net_60 : decode cX7_net 60 = .ok (.aload_n 0, 1) := by decide +kernel
theorem dX7_net_61 : decode cX7_net 61 = .ok (.getfield 19, 3) := by decide +kernel
theorem dX7_net_64 : decode cX7_net 64 = .ok (.getfield 91, 3) := by decide +kernel
theorem dX7_net_67 : decode cX7_net 67 = .ok (.ireturn, 1) := by decide +kernel
theorem dX7_proxy_0 : decode cX7_proxy 0 = .ok (.aload_n 0, 1) := by decide +kernel
theorem dX7_proxy_1 : decode cX7_proxy 1 = .ok (.getfield 19, 3) := by decide +kernel
theorem dX7_proxy_4 : decode cX7_proxy 4 = .ok (.iload_n 1, 1) := by decide +kernel
theorem dX7_proxy_5 : decode cX7_proxy 5 = .ok (.invokevirtual 94, 3) := by decide +kernel
theorem dX7_proxy_8 : decode cX7_proxy 8 = .ok (.astore_n 3, 1) := by decide +kernel
theorem dX7_proxy_9 : decode cX7_proxy 9 = .ok (.aload_n 3, 1) := by decide +kernel
theorem dX7_proxy_10 : decode cX7_proxy 10 = .ok (.ifnonnull 5, 3) := by decide +kernel
theorem dX7_proxy_13 : decode cX7_proxy 13 = .ok (.iconst (-1), 1) := by decide +kernel
theorem dX7_proxy_14 : decode cX7_proxy 14 = .ok (.ireturn, 1) := by decide +kernel
theorem dX7_proxy_15 : decode cX7_proxy 15 = .ok (.iload_n 2, 1) := by decide +kernel
theorem dX7_proxy_16 : decode cX7_proxy 16 = .ok (.tableswitch 116 0 7 #[48, 53, 58, 63, 68, 73, 92, 111], 48) := by decide +kernel
theorem dX7_proxy_64 : decode cX7_proxy 64 = .ok (.aload_n 3, 1) := by decide +kernel
theorem dX7_proxy_65 : decode cX7_proxy 65 = .ok (.getfield 98, 3) := by decide +kernel
theorem dX7_proxy_68 : decode cX7_proxy 68 = .ok (.ireturn, 1) := by decide +kernel
theorem dX7_proxy_69 : decode cX7_proxy 69 = .ok (.aload_n 3, 1) := by decide +kernel
theorem dX7_proxy_70 : decode cX7_proxy 70 = .ok (.getfield 103, 3) := by decide +kernel
theorem dX7_proxy_73 : decode cX7_proxy 73 = .ok (.ireturn, 1) := by decide +kernel
theorem dX7_proxy_74 : decode cX7_proxy 74 = .ok (.aload_n 3, 1) := by decide +kernel
theorem dX7_proxy_75 : decode cX7_proxy 75 = .ok (.getfield 106, 3) := by decide +kernel
theorem dX7_proxy_78 : decode cX7_proxy 78 = .ok (.ireturn, 1) := by decide +kernel
theorem dX7_proxy_79 : decode cX7_proxy 79 = .ok (.aload_n 3, 1) := by decide +kernel
theorem dX7_proxy_80 : decode cX7_proxy 80 = .ok (.getfield 109, 3) := by decide +kernel
theorem dX7_proxy_83 : decode cX7_proxy 83 = .ok (.ireturn, 1) := by decide +kernel
theorem dX7_proxy_84 : decode cX7_proxy 84 = .ok (.aload_n 3, 1) := by decide +kernel
theorem dX7_proxy_85 : decode cX7_proxy 85 = .ok (.getfield 112, 3) := by decide +kernel
theorem dX7_proxy_88 : decode cX7_proxy 88 = .ok (.ireturn, 1) := by decide +kernel
theorem dX7_proxy_89 : decode cX7_proxy 89 = .ok (.aload_n 0, 1) := by decide +kernel
theorem dX7_proxy_90 : decode cX7_proxy 90 = .ok (.getfield 19, 3) := by decide +kernel
theorem dX7_proxy_93 : decode cX7_proxy 93 = .ok (.aload_n 3, 1) := by decide +kernel
theorem dX7_proxy_94 : decode cX7_proxy 94 = .ok (.invokevirtual 115, 3) := by decide +kernel
theorem dX7_proxy_97 : decode cX7_proxy 97 = .ok (.aload_n 3, 1) := by decide +kernel
theorem dX7_proxy_98 : decode cX7_proxy 98 = .ok (.invokevirtual 119, 3) := by decide +kernel
theorem dX7_proxy_101 : decode cX7_proxy 101 = .ok (.iconst (-1), 1) := by decide +kernel
theorem dX7_proxy_102 : decode cX7_proxy 102 = .ok (.ixor, 1) := by decide +kernel
theorem dX7_proxy_103 : decode cX7_proxy 103 = .ok (.iand, 1) := by decide +kernel
theorem dX7_proxy_104 : decode cX7_proxy 104 = .ok (.invokestatic 122, 3) := by decide +kernel
theorem dX7_proxy_107 : decode cX7_proxy 107 = .ok (.ireturn, 1) := by decide +kernel
theorem dX7_proxy_108 : decode cX7_proxy 108 = .ok (.aload_n 3, 1) := by decide +kernel
theorem dX7_proxy_109 : decode cX7_proxy 109 = .ok (.invokevirtual 119, 3) := by decide +kernel
theorem dX7_proxy_112 : decode cX7_proxy 112 = .ok (.aload_n 0, 1) := by decide +kernel
theorem dX7_proxy_113 : decode cX7_proxy 113 = .ok (.getfield 19, 3) := by decide +kernel
theorem dX7_proxy_116 : decode cX7_proxy 116 = .ok (.aload_n 3, 1) := by decide +kernel
theorem dX7_proxy_117 : decode cX7_proxy 117 = .ok (.invokevirtual 115, 3) := by decide +kernel
theorem dX7_proxy_120 : decode cX7_proxy 120 = .ok (.iconst (-1), 1) := by decide +kernel
theorem dX7_proxy_121 : decode cX7_proxy 121 = .ok (.ixor, 1) := by decide +kernel
theorem dX7_proxy_122 : decode cX7_proxy 122 = .ok (.iand, 1) := by decide +kernel
theorem dX7_proxy_123 : decode cX7_proxy 123 = .ok (.invokestatic 122, 3) := by decide +kernel
theorem dX7_proxy_126 : decode cX7_proxy 126 = .ok (.ireturn, 1) := by decide +kernel
theorem dX7_proxy_127 : decode cX7_proxy 127 = .ok (.aload_n 3, 1) := by decide +kernel
theorem dX7_proxy_128 : decode cX7_proxy 128 = .ok (.invokevirtual 119, 3) := by decide +kernel
theorem dX7_proxy_131 : decode cX7_proxy 131 = .ok (.ireturn, 1) := by decide +kernel
theorem dX7_proxy_132 : decode cX7_proxy 132 = .ok (.bipush (-2), 2) := by decide +kernel
theorem dX7_proxy_134 : decode cX7_proxy 134 = .ok (.ireturn, 1) := by decide +kernel
theorem dX7_page_0 : decode cX7_page 0 = .ok (.aload_n 0, 1) := by decide +kernel
theorem dX7_page_1 : decode cX7_page 1 = .ok (.getfield 19, 3) := by decide +kernel
theorem dX7_page_4 : decode cX7_page 4 = .ok (.iload_n 1, 1) := by decide +kernel
theorem dX7_page_5 : decode cX7_page 5 = .ok (.invokevirtual 94, 3) := by decide +kernel
theorem dX7_page_8 : decode cX7_page 8 = .ok (.astore_n 3, 1) := by decide +kernel
theorem dX7_page_9 : decode cX7_page 9 = .ok (.aload_n 3, 1) := by decide +kernel
theorem dX7_page_10 : decode cX7_page 10 = .ok (.ifnonnull 5, 3) := by decide +kernel
theorem dX7_page_13 : decode cX7_page 13 = .ok (.iconst (-1), 1) := by decide +kernel
theorem dX7_page_14 : decode cX7_page 14 = .ok (.ireturn, 1) := by decide +kernel
theorem dX7_page_15 : decode cX7_page 15 = .ok (.iload_n 2, 1) := by decide +kernel
theorem dX7_page_16 : decode cX7_page 16 = .ok (.ifCond .lt 9, 3) := by decide +kernel
theorem dX7_page_19 : decode cX7_page 19 = .ok (.iload_n 2, 1) := by decide +kernel
theorem dX7_page_20 : decode cX7_page 20 = .ok (.bipush 9, 2) := by decide +kernel
theorem dX7_page_22 : decode cX7_page 22 = .ok (.if_icmp .lt 6, 3) := by decide +kernel
theorem dX7_page_25 : decode cX7_page 25 = .ok (.bipush (-2), 2) := by decide +kernel
theorem dX7_page_27 : decode cX7_page 27 = .ok (.ireturn, 1) := by decide +kernel
theorem dX7_page_28 : decode cX7_page 28 = .ok (.aload_n 3, 1) := by decide +kernel
theorem dX7_page_29 : decode cX7_page 29 = .ok (.iload_n 2, 1) := by decide +kernel
theorem dX7_page_30 : decode cX7_page 30 = .ok (.invokevirtual 128, 3) := by decide +kernel
theorem dX7_page_33 : decode cX7_page 33 = .ok (.ireturn, 1) := by decide +kernel
theorem dX7_counter_0 : decode cX7_counter 0 = .ok (.aload_n 0, 1) := by decide +kernel
theorem dX7_counter_1 : decode cX7_counter 1 = .ok (.getfield 19, 3) := by decide +kernel
theorem dX7_counter_4 : decode cX7_counter 4 = .ok (.iload_n 1, 1) := by decide +kernel
theorem dX7_counter_5 : decode cX7_counter 5 = .ok (.invokevirtual 94, 3) := by decide +kernel
theorem dX7_counter_8 : decode cX7_counter 8 = .ok (.astore_n 3, 1) := by decide +kernel
theorem dX7_counter_9 : decode cX7_counter 9 = .ok (.aload_n 3, 1) := by decide +kernel
theorem dX7_counter_10 : decode cX7_counter 10 = .ok (.ifnull 30, 3) := by decide +kernel
theorem dX7_counter_13 : decode cX7_counter 13 = .ok (.iload_n 2, 1) := by decide +kernel
theorem dX7_counter_14 : decode cX7_counter 14 = .ok (.ifCond .lt 26, 3) := by decide +kernel
theorem dX7_counter_17 : decode cX7_counter 17 = .ok (.iload_n 2, 1) := by decide +kernel
theorem dX7_counter_18 : decode cX7_counter 18 = .ok (.aload_n 0, 1) := by decide +kernel
theorem dX7_counter_19 : decode cX7_counter 19 = .ok (.getfield 19, 3) := by decide +kernel
theorem dX7_counter_22 : decode cX7_counter 22 = .ok (.getfield 131, 3) := by decide +kernel
theorem dX7_counter_25 : decode cX7_counter 25 = .ok (.getfield 135, 3) := by decide +kernel
theorem dX7_counter_28 : decode cX7_counter 28 = .ok (.if_icmp .ge 12, 3) := by decide +kernel
theorem dX7_counter_31 : decode cX7_counter 31 = .ok (.iload_n 2, 1) := by decide +kernel
theorem dX7_counter_32 : decode cX7_counter 32 = .ok (.aload_n 3, 1) := by decide +kernel
theorem dX7_counter_33 : decode cX7_counter 33 = .ok (.getfield 140, 3) := by decide +kernel
theorem dX7_counter_36 : decode cX7_counter 36 = .ok (.arraylength, 1) := by decide +kernel
theorem dX7_counter_37 : decode cX7_counter 37 = .ok (.if_icmp .lt 5, 3) := by decide +kernel
theorem dX7_counter_40 : decode cX7_counter 40 = .ok (.iconst (-1), 1) := by decide +kernel
theorem dX7_counter_41 : decode cX7_counter 41 = .ok (.ireturn, 1) := by decide +kernel
theorem dX7_counter_42 : decode cX7_counter 42 = .ok (.aload_n 3, 1) := by decide +kernel
theorem dX7_counter_43 : decode cX7_counter 43 = .ok (.getfield 140, 3) := by decide +kernel
theorem dX7_counter_46 : decode cX7_counter 46 = .ok (.iload_n 2, 1) := by decide +kernel
theorem dX7_counter_47 : decode cX7_counter 47 = .ok (.iaload, 1) := by decide +kernel
theorem dX7_counter_48 : decode cX7_counter 48 = .ok (.ireturn, 1) := by decide +kernel
theorem dX7_hash_0 : decode cX7_hash 0 = .ok (.aload_n 0, 1) := by decide +kernel
theorem dX7_hash_1 : decode cX7_hash 1 = .ok (.getfield 19, 3) := by decide +kernel
theorem dX7_hash_4 : decode cX7_hash 4 = .ok (.getfield 131, 3) := by decide +kernel
theorem dX7_hash_7 : decode cX7_hash 7 = .ok (.iload_n 1, 1) := by decide +kernel
theorem dX7_hash_8 : decode cX7_hash 8 = .ok (.invokevirtual 144, 3) := by decide +kernel
theorem dX7_hash_11 : decode cX7_hash 11 = .ok (.ifCond .eq 10, 3) := by decide +kernel
theorem dX7_hash_14 : decode cX7_hash 14 = .ok (.iload_n 2, 1) := by decide +kernel
theorem dX7_hash_15 : decode cX7_hash 15 = .ok (.invokestatic 147, 3) := by decide +kernel
theorem dX7_hash_18 : decode cX7_hash 18 = .ok (.ifCond .ne 5, 3) := by decide +kernel
theorem dX7_hash_21 : decode cX7_hash 21 = .ok (.iconst (-1), 1) := by decide +kernel
theorem dX7_hash_22 : decode cX7_hash 22 = .ok (.ireturn, 1) := by decide +kernel
theorem dX7_hash_23 : decode cX7_hash 23 = .ok (.iload_n 3, 1) := by decide +kernel
theorem dX7_hash_24 : decode cX7_hash 24 = .ok (.ifCond .lt 17, 3) := by decide +kernel
theorem dX7_hash_27 : decode cX7_hash 27 = .ok (.iload_n 3, 1) := by decide +kernel
theorem dX7_hash_28 : decode cX7_hash 28 = .ok (.aload_n 0, 1) := by decide +kernel
theorem dX7_hash_29 : decode cX7_hash 29 = .ok (.getfield 19, 3) := by decide +kernel
theorem dX7_hash_32 : decode cX7_hash 32 = .ok (.getfield 131, 3) := by decide +kernel
theorem dX7_hash_35 : decode cX7_hash 35 = .ok (.getfield 150, 3) := by decide +kernel
theorem dX7_hash_38 : decode cX7_hash 38 = .ok (.if_icmp .lt 6, 3) := by decide +kernel
theorem dX7_hash_41 : decode cX7_hash 41 = .ok (.bipush (-2), 2) := by decide +kernel
theorem dX7_hash_43 : decode cX7_hash 43 = .ok (.ireturn, 1) := by decide +kernel
theorem dX7_hash_44 : decode cX7_hash 44 = .ok (.aload_n 0, 1) := by decide +kernel
theorem dX7_hash_45 : decode cX7_hash 45 = .ok (.getfield 19, 3) := by decide +kernel
theorem dX7_hash_48 : decode cX7_hash 48 = .ok (.getfield 131, 3) := by decide +kernel
theorem dX7_hash_51 : decode cX7_hash 51 = .ok (.iload_n 1, 1) := by decide +kernel
theorem dX7_hash_52 : decode cX7_hash 52 = .ok (.iload_n 2, 1) := by decide +kernel
theorem dX7_hash_53 : decode cX7_hash 53 = .ok (.iload_n 3, 1) := by decide +kernel
theorem dX7_hash_54 : decode cX7_hash 54 = .ok (.invokevirtual 153, 3) := by decide +kernel
theorem dX7_hash_57 : decode cX7_hash 57 = .ok (.ireturn, 1) := by decide +kernel
theorem dX7_says_0 : decode cX7_says 0 = .ok (.aload_n 0, 1) := by decide +kernel
theorem dX7_says_1 : decode cX7_says 1 = .ok (.getfield 19, 3) := by decide +kernel
theorem dX7_says_4 : decode cX7_says 4 = .ok (.iload_n 1, 1) := by decide +kernel
theorem dX7_says_5 : decode cX7_says 5 = .ok (.invokevirtual 94, 3) := by decide +kernel
theorem dX7_says_8 : decode cX7_says 8 = .ok (.astore 4, 2) := by decide +kernel
theorem dX7_says_10 : decode cX7_says 10 = .ok (.aload 4, 2) := by decide +kernel
theorem dX7_says_12 : decode cX7_says 12 = .ok (.ifnull 10, 3) := by decide +kernel
theorem dX7_says_15 : decode cX7_says 15 = .ok (.iload_n 2, 1) := by decide +kernel
theorem dX7_says_16 : decode cX7_says 16 = .ok (.invokestatic 147, 3) := by decide +kernel
theorem dX7_says_19 : decode cX7_says 19 = .ok (.ifCond .ne 5, 3) := by decide +kernel
theorem dX7_says_22 : decode cX7_says 22 = .ok (.iconst (-1), 1) := by decide +kernel
theorem dX7_says_23 : decode cX7_says 23 = .ok (.ireturn, 1) := by decide +kernel
theorem dX7_says_24 : decode cX7_says 24 = .ok (.aload_n 0, 1) := by decide +kernel
theorem dX7_says_25 : decode cX7_says 25 = .ok (.getfield 19, 3) := by decide +kernel
theorem dX7_says_28 : decode cX7_says 28 = .ok (.aload 4, 2) := by decide +kernel
theorem dX7_says_30 : decode cX7_says 30 = .ok (.iload_n 3, 1) := by decide +kernel
theorem dX7_says_31 : decode cX7_says 31 = .ok (.ifCond .eq 7, 3) := by decide +kernel
theorem dX7_says_34 : decode cX7_says 34 = .ok (.iconst 2, 1) := by decide +kernel
theorem dX7_says_35 : decode cX7_says 35 = .ok (.goto 4, 3) := by decide +kernel
theorem dX7_says_38 : decode cX7_says 38 = .ok (.iconst 1, 1) := by decide +kernel
theorem dX7_says_39 : decode cX7_says 39 = .ok (.iload_n 2, 1) := by decide +kernel
theorem dX7_says_40 : decode cX7_says 40 = .ok (.invokevirtual 157, 3) := by decide +kernel
theorem dX7_says_43 : decode cX7_says 43 = .ok (.ifCond .eq 7, 3) := by decide +kernel
theorem dX7_says_46 : decode cX7_says 46 = .ok (.iconst 1, 1) := by decide +kernel
theorem dX7_says_47 : decode cX7_says 47 = .ok (.goto 4, 3) := by decide +kernel
theorem dX7_says_50 : decode cX7_says 50 = .ok (.iconst 0, 1) := by decide +kernel
theorem dX7_says_51 : decode cX7_says 51 = .ok (.ireturn, 1) := by decide +kernel
theorem dX7_ask_0 : decode cX7_ask 0 = .ok (.aload_n 0, 1) := by decide +kernel
theorem dX7_ask_1 : decode cX7_ask 1 = .ok (.getfield 19, 3) := by decide +kernel
theorem dX7_ask_4 : decode cX7_ask 4 = .ok (.iload_n 1, 1) := by decide +kernel
theorem dX7_ask_5 : decode cX7_ask 5 = .ok (.invokevirtual 94, 3) := by decide +kernel
theorem dX7_ask_8 : decode cX7_ask 8 = .ok (.ifnull 10, 3) := by decide +kernel
theorem dX7_ask_11 : decode cX7_ask 11 = .ok (.iload_n 2, 1) := by decide +kernel
theorem dX7_ask_12 : decode cX7_ask 12 = .ok (.invokestatic 147, 3) := by decide +kernel
theorem dX7_ask_15 : decode cX7_ask 15 = .ok (.ifCond .ne 5, 3) := by decide +kernel
theorem dX7_ask_18 : decode cX7_ask 18 = .ok (.iconst (-1), 1) := by decide +kernel
theorem dX7_ask_19 : decode cX7_ask 19 = .ok (.ireturn, 1) := by decide +kernel
theorem dX7_ask_20 : decode cX7_ask 20 = .ok (.aload_n 0, 1) := by decide +kernel
theorem dX7_ask_21 : decode cX7_ask 21 = .ok (.getfield 29, 3) := by decide +kernel
theorem dX7_ask_24 : decode cX7_ask 24 = .ok (.aload_n 0, 1) := by decide +kernel
theorem dX7_ask_25 : decode cX7_ask 25 = .ok (.getfield 19, 3) := by decide +kernel
theorem dX7_ask_28 : decode cX7_ask 28 = .ok (.invokevirtual 161, 3) := by decide +kernel
theorem dX7_ask_31 : decode cX7_ask 31 = .ok (.aload_n 0, 1) := by decide +kernel
theorem dX7_ask_32 : decode cX7_ask 32 = .ok (.getfield 19, 3) := by decide +kernel
theorem dX7_ask_35 : decode cX7_ask 35 = .ok (.iload_n 1, 1) := by decide +kernel
theorem dX7_ask_36 : decode cX7_ask 36 = .ok (.iload_n 2, 1) := by decide +kernel
theorem dX7_ask_37 : decode cX7_ask 37 = .ok (.invokevirtual 164, 3) := by decide +kernel
theorem dX7_ask_40 : decode cX7_ask 40 = .ok (.ireturn, 1) := by decide +kernel
theorem dX7_drop_0 : decode cX7_drop 0 = .ok (.aload_n 0, 1) := by decide +kernel
theorem dX7_drop_1 : decode cX7_drop 1 = .ok (.getfield 19, 3) := by decide +kernel
theorem dX7_drop_4 : decode cX7_drop 4 = .ok (.iload_n 1, 1) := by decide +kernel
theorem dX7_drop_5 : decode cX7_drop 5 = .ok (.invokevirtual 94, 3) := by decide +kernel
theorem dX7_drop_8 : decode cX7_drop 8 = .ok (.astore_n 3, 1) := by decide +kernel
theorem dX7_drop_9 : decode cX7_drop 9 = .ok (.aload_n 3, 1) := by decide +kernel
theorem dX7_drop_10 : decode cX7_drop 10 = .ok (.ifnull 10, 3) := by decide +kernel
theorem dX7_drop_13 : decode cX7_drop 13 = .ok (.iload_n 2, 1) := by decide +kernel
theorem dX7_drop_14 : decode cX7_drop 14 = .ok (.invokestatic 147, 3) := by decide +kernel
theorem dX7_drop_17 : decode cX7_drop 17 = .ok (.ifCond .ne 5, 3) := by decide +kernel
theorem dX7_drop_20 : decode cX7_drop 20 = .ok (.iconst (-1), 1) := by decide +kernel
theorem dX7_drop_21 : decode cX7_drop 21 = .ok (.ireturn, 1) := by decide +kernel
theorem dX7_drop_22 : decode cX7_drop 22 = .ok (.aload_n 3, 1) := by decide +kernel
theorem dX7_drop_23 : decode cX7_drop 23 = .ok (.iload_n 2, 1) := by decide +kernel
theorem dX7_drop_24 : decode cX7_drop 24 = .ok (.invokevirtual 168, 3) := by decide +kernel
theorem dX7_drop_27 : decode cX7_drop 27 = .ok (.ifCond .ne 6, 3) := by decide +kernel
theorem dX7_drop_30 : decode cX7_drop 30 = .ok (.bipush (-3), 2) := by decide +kernel
theorem dX7_drop_32 : decode cX7_drop 32 = .ok (.ireturn, 1) := by decide +kernel
theorem dX7_drop_33 : decode cX7_drop 33 = .ok (.aload_n 0, 1) := by decide +kernel
theorem dX7_drop_34 : decode cX7_drop 34 = .ok (.getfield 29, 3) := by decide +kernel
theorem dX7_drop_37 : decode cX7_drop 37 = .ok (.aload_n 0, 1) := by decide +kernel
theorem dX7_drop_38 : decode cX7_drop 38 = .ok (.getfield 19, 3) := by decide +kernel
theorem dX7_drop_41 : decode cX7_drop 41 = .ok (.invokevirtual 161, 3) := by decide +kernel
theorem dX7_drop_44 : decode cX7_drop 44 = .ok (.aload_n 0, 1) := by decide +kernel
theorem dX7_drop_45 : decode cX7_drop 45 = .ok (.getfield 19, 3) := by decide +kernel
theorem dX7_drop_48 : decode cX7_drop 48 = .ok (.aload_n 3, 1) := by decide +kernel
theorem dX7_drop_49 : decode cX7_drop 49 = .ok (.iload_n 2, 1) := by decide +kernel
theorem dX7_drop_50 : decode cX7_drop 50 = .ok (.invokevirtual 171, 3) := by decide +kernel
theorem dX7_drop_53 : decode cX7_drop 53 = .ok (.pop, 1) := by decide +kernel
theorem dX7_drop_54 : decode cX7_drop 54 = .ok (.aload_n 3, 1) := by decide +kernel
theorem dX7_drop_55 : decode cX7_drop 55 = .ok (.getfield 106, 3) := by decide +kernel
theorem dX7_drop_58 : decode cX7_drop 58 = .ok (.ireturn, 1) := by decide +kernel
theorem dX7_send_0 : decode cX7_send 0 = .ok (.aload_n 0, 1) := by decide +kernel
theorem dX7_send_1 : decode cX7_send 1 = .ok (.getfield 19, 3) := by decide +kernel
theorem dX7_send_4 : decode cX7_send 4 = .ok (.iload_n 1, 1) := by decide +kernel
theorem dX7_send_5 : decode cX7_send 5 = .ok (.invokevirtual 94, 3) := by decide +kernel
theorem dX7_send_8 : decode cX7_send 8 = .ok (.astore_n 2, 1) := by decide +kernel
theorem dX7_send_9 : decode cX7_send 9 = .ok (.aload_n 2, 1) := by decide +kernel
theorem dX7_send_10 : decode cX7_send 10 = .ok (.ifnonnull 5, 3) := by decide +kernel
theorem dX7_send_13 : decode cX7_send 13 = .ok (.iconst (-1), 1) := by decide +kernel
theorem dX7_send_14 : decode cX7_send 14 = .ok (.ireturn, 1) := by decide +kernel
theorem dX7_send_15 : decode cX7_send 15 = .ok (.aload_n 0, 1) := by decide +kernel
theorem dX7_send_16 : decode cX7_send 16 = .ok (.getfield 29, 3) := by decide +kernel
theorem dX7_send_19 : decode cX7_send 19 = .ok (.aload_n 0, 1) := by decide +kernel
theorem dX7_send_20 : decode cX7_send 20 = .ok (.getfield 19, 3) := by decide +kernel
theorem dX7_send_23 : decode cX7_send 23 = .ok (.invokevirtual 161, 3) := by decide +kernel
theorem dX7_send_26 : decode cX7_send 26 = .ok (.aload_n 0, 1) := by decide +kernel
theorem dX7_send_27 : decode cX7_send 27 = .ok (.getfield 19, 3) := by decide +kernel
theorem dX7_send_30 : decode cX7_send 30 = .ok (.aload_n 2, 1) := by decide +kernel
theorem dX7_send_31 : decode cX7_send 31 = .ok (.invokevirtual 175, 3) := by decide +kernel
theorem dX7_send_34 : decode cX7_send 34 = .ok (.pop, 1) := by decide +kernel
theorem dX7_send_35 : decode cX7_send 35 = .ok (.aload_n 2, 1) := by decide +kernel
theorem dX7_send_36 : decode cX7_send 36 = .ok (.getfield 112, 3) := by decide +kernel
theorem dX7_send_39 : decode cX7_send 39 = .ok (.ireturn, 1) := by decide +kernel
theorem dX7_threshold_0 : decode cX7_threshold 0 = .ok (.aload_n 0, 1) := by decide +kernel
theorem dX7_threshold_1 : decode cX7_threshold 1 = .ok (.getfield 19, 3) := by decide +kernel
theorem dX7_threshold_4 : decode cX7_threshold 4 = .ok (.iload_n 1, 1) := by decide +kernel
theorem dX7_threshold_5 : decode cX7_threshold 5 = .ok (.invokevirtual 94, 3) := by decide +kernel
theorem dX7_threshold_8 : decode cX7_threshold 8 = .ok (.astore_n 3, 1) := by decide +kernel
theorem dX7_threshold_9 : decode cX7_threshold 9 = .ok (.aload_n 3, 1) := by decide +kernel
theorem dX7_threshold_10 : decode cX7_threshold 10 = .ok (.ifnonnull 5, 3) := by decide +kernel
theorem dX7_threshold_13 : decode cX7_threshold 13 = .ok (.iconst (-1), 1) := by decide +kernel
theorem dX7_threshold_14 : decode cX7_threshold 14 = .ok (.ireturn, 1) := by decide +kernel
theorem dX7_threshold_15 : decode cX7_threshold 15 = .ok (.iload_n 2, 1) := by decide +kernel
theorem dX7_threshold_16 : decode cX7_threshold 16 = .ok (.iconst 1, 1) := by decide +kernel
theorem dX7_threshold_17 : decode cX7_threshold 17 = .ok (.if_icmp .lt 9, 3) := by decide +kernel
theorem dX7_threshold_20 : decode cX7_threshold 20 = .ok (.iload_n 2, 1) := by decide +kernel
theorem dX7_threshold_21 : decode cX7_threshold 21 = .ok (.bipush 9, 2) := by decide +kernel
theorem dX7_threshold_23 : decode cX7_threshold 23 = .ok (.if_icmp .le 6, 3) := by decide +kernel
theorem dX7_threshold_26 : decode cX7_threshold 26 = .ok (.bipush (-2), 2) := by decide +kernel
theorem dX7_threshold_28 : decode cX7_threshold 28 = .ok (.ireturn, 1) := by decide +kernel
theorem dX7_threshold_29 : decode cX7_threshold 29 = .ok (.aload_n 3, 1) := by decide +kernel
theorem dX7_threshold_30 : decode cX7_threshold 30 = .ok (.getfield 103, 3) := by decide +kernel
theorem dX7_threshold_33 : decode cX7_threshold 33 = .ok (.istore 4, 2) := by decide +kernel
theorem dX7_threshold_35 : decode cX7_threshold 35 = .ok (.aload_n 0, 1) := by decide +kernel
theorem dX7_threshold_36 : decode cX7_threshold 36 = .ok (.getfield 29, 3) := by decide +kernel
theorem dX7_threshold_39 : decode cX7_threshold 39 = .ok (.aload_n 0, 1) := by decide +kernel
theorem dX7_threshold_40 : decode cX7_threshold 40 = .ok (.getfield 19, 3) := by decide +kernel
theorem dX7_threshold_43 : decode cX7_threshold 43 = .ok (.invokevirtual 161, 3) := by decide +kernel
theorem dX7_threshold_46 : decode cX7_threshold 46 = .ok (.aload_n 3, 1) := by decide +kernel
theorem dX7_threshold_47 : decode cX7_threshold 47 = .ok (.iload_n 2, 1) := by decide +kernel
theorem dX7_threshold_48 : decode cX7_threshold 48 = .ok (.putfield 103, 3) := by decide +kernel
theorem dX7_threshold_51 : decode cX7_threshold 51 = .ok (.aload_n 0, 1) := by decide +kernel
theorem dX7_threshold_52 : decode cX7_threshold 52 = .ok (.getfield 19, 3) := by decide +kernel
theorem dX7_threshold_55 : decode cX7_threshold 55 = .ok (.invokevirtual 179, 3) := by decide +kernel
theorem dX7_threshold_58 : decode cX7_threshold 58 = .ok (.iload 4, 2) := by decide +kernel
theorem dX7_threshold_60 : decode cX7_threshold 60 = .ok (.ireturn, 1) := by decide +kernel
theorem dX7_use_0 : decode cX7_use 0 = .ok (.aload_n 0, 1) := by decide +kernel
theorem dX7_use_1 : decode cX7_use 1 = .ok (.getfield 19, 3) := by decide +kernel
theorem dX7_use_4 : decode cX7_use 4 = .ok (.getfield 131, 3) := by decide +kernel
theorem dX7_use_7 : decode cX7_use 7 = .ok (.iload_n 1, 1) := by decide +kernel
theorem dX7_use_8 : decode cX7_use 8 = .ok (.invokevirtual 144, 3) := by decide +kernel
theorem dX7_use_11 : decode cX7_use 11 = .ok (.ifCond .ne 5, 3) := by decide +kernel
theorem dX7_use_14 : decode cX7_use 14 = .ok (.iconst (-1), 1) := by decide +kernel
theorem dX7_use_15 : decode cX7_use 15 = .ok (.ireturn, 1) := by decide +kernel
theorem dX7_use_16 : decode cX7_use 16 = .ok (.aload_n 0, 1) := by decide +kernel
theorem dX7_use_17 : decode cX7_use 17 = .ok (.getfield 19, 3) := by decide +kernel
theorem dX7_use_20 : decode cX7_use 20 = .ok (.getfield 131, 3) := by decide +kernel
theorem dX7_use_23 : decode cX7_use 23 = .ok (.getfield 182, 3) := by decide +kernel
theorem dX7_use_26 : decode cX7_use 26 = .ok (.istore_n 2, 1) := by decide +kernel
theorem dX7_use_27 : decode cX7_use 27 = .ok (.aload_n 0, 1) := by decide +kernel
theorem dX7_use_28 : decode cX7_use 28 = .ok (.getfield 29, 3) := by decide +kernel
theorem dX7_use_31 : decode cX7_use 31 = .ok (.aload_n 0, 1) := by decide +kernel
theorem dX7_use_32 : decode cX7_use 32 = .ok (.getfield 19, 3) := by decide +kernel
theorem dX7_use_35 : decode cX7_use 35 = .ok (.invokevirtual 161, 3) := by decide +kernel
theorem dX7_use_38 : decode cX7_use 38 = .ok (.aload_n 0, 1) := by decide +kernel
theorem dX7_use_39 : decode cX7_use 39 = .ok (.getfield 19, 3) := by decide +kernel
theorem dX7_use_42 : decode cX7_use 42 = .ok (.iload_n 1, 1) := by decide +kernel
theorem dX7_use_43 : decode cX7_use 43 = .ok (.invokevirtual 185, 3) := by decide +kernel
theorem dX7_use_46 : decode cX7_use 46 = .ok (.pop, 1) := by decide +kernel
theorem dX7_use_47 : decode cX7_use 47 = .ok (.iload_n 2, 1) := by decide +kernel
theorem dX7_use_48 : decode cX7_use 48 = .ok (.ireturn, 1) := by decide +kernel
theorem dX7_undo_0 : decode cX7_undo 0 = .ok (.aload_n 0, 1) := by decide +kernel
theorem dX7_undo_1 : decode cX7_undo 1 = .ok (.getfield 29, 3) := by decide +kernel
theorem dX7_undo_4 : decode cX7_undo 4 = .ok (.aload_n 0, 1) := by decide +kernel
theorem dX7_undo_5 : decode cX7_undo 5 = .ok (.getfield 19, 3) := by decide +kernel
theorem dX7_undo_8 : decode cX7_undo 8 = .ok (.invokevirtual 188, 3) := by decide +kernel
theorem dX7_undo_11 : decode cX7_undo 11 = .ok (.ifCond .ne 6, 3) := by decide +kernel
theorem dX7_undo_14 : decode cX7_undo 14 = .ok (.bipush (-3), 2) := by decide +kernel
theorem dX7_undo_16 : decode cX7_undo 16 = .ok (.ireturn, 1) := by decide +kernel
theorem dX7_undo_17 : decode cX7_undo 17 = .ok (.aload_n 0, 1) := by decide +kernel
theorem dX7_undo_18 : decode cX7_undo 18 = .ok (.getfield 29, 3) := by decide +kernel
theorem dX7_undo_21 : decode cX7_undo 21 = .ok (.getfield 192, 3) := by decide +kernel
theorem dX7_undo_24 : decode cX7_undo 24 = .ok (.ireturn, 1) := by decide +kernel
theorem dX7_weight_0 : decode cX7_weight 0 = .ok (.aload_n 0, 1) := by decide +kernel
theorem dX7_weight_1 : decode cX7_weight 1 = .ok (.getfield 19, 3) := by decide +kernel
theorem dX7_weight_4 : decode cX7_weight 4 = .ok (.iload_n 1, 1) := by decide +kernel
theorem dX7_weight_5 : decode cX7_weight 5 = .ok (.invokevirtual 94, 3) := by decide +kernel
theorem dX7_weight_8 : decode cX7_weight 8 = .ok (.astore_n 2, 1) := by decide +kernel
theorem dX7_weight_9 : decode cX7_weight 9 = .ok (.aload_n 2, 1) := by decide +kernel
theorem dX7_weight_10 : decode cX7_weight 10 = .ok (.ifnull 16, 3) := by decide +kernel
theorem dX7_weight_13 : decode cX7_weight 13 = .ok (.aload_n 0, 1) := by decide +kernel
theorem dX7_weight_14 : decode cX7_weight 14 = .ok (.getfield 19, 3) := by decide +kernel
theorem dX7_weight_17 : decode cX7_weight 17 = .ok (.getfield 131, 3) := by decide +kernel
theorem dX7_weight_20 : decode cX7_weight 20 = .ok (.getfield 135, 3) := by decide +kernel
theorem dX7_weight_23 : decode cX7_weight 23 = .ok (.ifCond .gt 5, 3) := by decide +kernel
theorem dX7_weight_26 : decode cX7_weight 26 = .ok (.iconst (-1), 1) := by decide +kernel
theorem dX7_weight_27 : decode cX7_weight 27 = .ok (.ireturn, 1) := by decide +kernel
theorem dX7_weight_28 : decode cX7_weight 28 = .ok (.aload_n 2, 1) := by decide +kernel
theorem dX7_weight_29 : decode cX7_weight 29 = .ok (.invokevirtual 193, 3) := by decide +kernel
theorem dX7_weight_32 : decode cX7_weight 32 = .ok (.invokestatic 122, 3) := by decide +kernel
theorem dX7_weight_35 : decode cX7_weight 35 = .ok (.i2f, 1) := by decide +kernel
theorem dX7_weight_36 : decode cX7_weight 36 = .ok (.aload_n 0, 1) := by decide +kernel
theorem dX7_weight_37 : decode cX7_weight 37 = .ok (.getfield 19, 3) := by decide +kernel
theorem dX7_weight_40 : decode cX7_weight 40 = .ok (.getfield 131, 3) := by decide +kernel
theorem dX7_weight_43 : decode cX7_weight 43 = .ok (.getfield 135, 3) := by decide +kernel
theorem dX7_weight_46 : decode cX7_weight 46 = .ok (.i2f, 1) := by decide +kernel
theorem dX7_weight_47 : decode cX7_weight 47 = .ok (.fdiv, 1) := by decide +kernel
theorem dX7_weight_48 : decode cX7_weight 48 = .ok (.fstore_n 3, 1) := by decide +kernel
theorem dX7_weight_49 : decode cX7_weight 49 = .ok (.fload_n 3, 1) := by decide +kernel
theorem dX7_weight_50 : decode cX7_weight 50 = .ok (.fstore 4, 2) := by decide +kernel
theorem dX7_weight_52 : decode cX7_weight 52 = .ok (.iconst 1, 1) := by decide +kernel
theorem dX7_weight_53 : decode cX7_weight 53 = .ok (.istore 5, 2) := by decide +kernel
theorem dX7_weight_55 : decode cX7_weight 55 = .ok (.iload 5, 2) := by decide +kernel
theorem dX7_weight_57 : decode cX7_weight 57 = .ok (.aload_n 0, 1) := by decide +kernel
theorem dX7_weight_58 : decode cX7_weight 58 = .ok (.getfield 19, 3) := by decide +kernel
theorem dX7_weight_61 : decode cX7_weight 61 = .ok (.getfield 131, 3) := by decide +kernel
theorem dX7_weight_64 : decode cX7_weight 64 = .ok (.getfield 150, 3) := by decide +kernel
theorem dX7_weight_67 : decode cX7_weight 67 = .ok (.if_icmp .ge 15, 3) := by decide +kernel
theorem dX7_weight_70 : decode cX7_weight 70 = .ok (.fload 4, 2) := by decide +kernel
theorem dX7_weight_72 : decode cX7_weight 72 = .ok (.fload_n 3, 1) := by decide +kernel
theorem dX7_weight_73 : decode cX7_weight 73 = .ok (.fmul, 1) := by decide +kernel
theorem dX7_weight_74 : decode cX7_weight 74 = .ok (.fstore 4, 2) := by decide +kernel
theorem dX7_weight_76 : decode cX7_weight 76 = .ok (.iinc 5 1, 3) := by decide +kernel
theorem dX7_weight_79 : decode cX7_weight 79 = .ok (.goto (-24), 3) := by decide +kernel
theorem dX7_weight_82 : decode cX7_weight 82 = .ok (.fload 4, 2) := by decide +kernel
theorem dX7_weight_84 : decode cX7_weight 84 = .ok (.invokestatic 196, 3) := by decide +kernel
theorem dX7_weight_87 : decode cX7_weight 87 = .ok (.ireturn, 1) := by decide +kernel
theorem dX7_best_0 : decode cX7_best 0 = .ok (.aload_n 0, 1) := by decide +kernel
theorem dX7_best_1 : decode cX7_best 1 = .ok (.getfield 19, 3) := by decide +kernel
theorem dX7_best_4 : decode cX7_best 4 = .ok (.iload_n 1, 1) := by decide +kernel
theorem dX7_best_5 : decode cX7_best 5 = .ok (.invokevirtual 94, 3) := by decide +kernel
theorem dX7_best_8 : decode cX7_best 8 = .ok (.astore_n 3, 1) := by decide +kernel
theorem dX7_best_9 : decode cX7_best 9 = .ok (.aload_n 3, 1) := by decide +kernel
theorem dX7_best_10 : decode cX7_best 10 = .ok (.ifnonnull 5, 3) := by decide +kernel
theorem dX7_best_13 : decode cX7_best 13 = .ok (.iconst (-1), 1) := by decide +kernel
theorem dX7_best_14 : decode cX7_best 14 = .ok (.ireturn, 1) := by decide +kernel
theorem dX7_best_15 : decode cX7_best 15 = .ok (.iload_n 2, 1) := by decide +kernel
theorem dX7_best_16 : decode cX7_best 16 = .ok (.ifCond .eq 11, 3) := by decide +kernel
theorem dX7_best_19 : decode cX7_best 19 = .ok (.iload_n 2, 1) := by decide +kernel
theorem dX7_best_20 : decode cX7_best 20 = .ok (.iconst 1, 1) := by decide +kernel
theorem dX7_best_21 : decode cX7_best 21 = .ok (.if_icmp .eq 6, 3) := by decide +kernel
theorem dX7_best_24 : decode cX7_best 24 = .ok (.bipush (-2), 2) := by decide +kernel
theorem dX7_best_26 : decode cX7_best 26 = .ok (.ireturn, 1) := by decide +kernel
theorem dX7_best_27 : decode cX7_best 27 = .ok (.iconst 0, 1) := by decide +kernel
theorem dX7_best_28 : decode cX7_best 28 = .ok (.istore 4, 2) := by decide +kernel
theorem dX7_best_30 : decode cX7_best 30 = .ok (.bipush 33, 2) := by decide +kernel
theorem dX7_best_32 : decode cX7_best 32 = .ok (.istore 5, 2) := by decide +kernel
theorem dX7_best_34 : decode cX7_best 34 = .ok (.iconst 0, 1) := by decide +kernel
theorem dX7_best_35 : decode cX7_best 35 = .ok (.istore 6, 2) := by decide +kernel
theorem dX7_best_37 : decode cX7_best 37 = .ok (.iload 6, 2) := by decide +kernel
theorem dX7_best_39 : decode cX7_best 39 = .ok (.aload_n 0, 1) := by decide +kernel
theorem dX7_best_40 : decode cX7_best 40 = .ok (.getfield 19, 3) := by decide +kernel
theorem dX7_best_43 : decode cX7_best 43 = .ok (.getfield 131, 3) := by decide +kernel
theorem dX7_best_46 : decode cX7_best 46 = .ok (.getfield 200, 3) := by decide +kernel
theorem dX7_best_49 : decode cX7_best 49 = .ok (.if_icmp .ge 36, 3) := by decide +kernel
theorem dX7_best_52 : decode cX7_best 52 = .ok (.aload_n 0, 1) := by decide +kernel
theorem dX7_best_53 : decode cX7_best 53 = .ok (.getfield 19, 3) := by decide +kernel
theorem dX7_best_56 : decode cX7_best 56 = .ok (.aload_n 3, 1) := by decide +kernel
theorem dX7_best_57 : decode cX7_best 57 = .ok (.iload 6, 2) := by decide +kernel
theorem dX7_best_59 : decode cX7_best 59 = .ok (.invokevirtual 203, 3) := by decide +kernel
theorem dX7_best_62 : decode cX7_best 62 = .ok (.istore 7, 2) := by decide +kernel
theorem dX7_best_64 : decode cX7_best 64 = .ok (.iload 7, 2) := by decide +kernel
theorem dX7_best_66 : decode cX7_best 66 = .ok (.iload 5, 2) := by decide +kernel
theorem dX7_best_68 : decode cX7_best 68 = .ok (.if_icmp .ge 11, 3) := by decide +kernel
theorem dX7_best_71 : decode cX7_best 71 = .ok (.iload 7, 2) := by decide +kernel
theorem dX7_best_73 : decode cX7_best 73 = .ok (.istore 5, 2) := by decide +kernel
theorem dX7_best_75 : decode cX7_best 75 = .ok (.iload 6, 2) := by decide +kernel
theorem dX7_best_77 : decode cX7_best 77 = .ok (.istore 4, 2) := by decide +kernel
theorem dX7_best_79 : decode cX7_best 79 = .ok (.iinc 6 1, 3) := by decide +kernel
theorem dX7_best_82 : decode cX7_best 82 = .ok (.goto (-45), 3) := by decide +kernel
theorem dX7_best_85 : decode cX7_best 85 = .ok (.iload_n 2, 1) := by decide +kernel
theorem dX7_best_86 : decode cX7_best 86 = .ok (.ifCond .ne 8, 3) := by decide +kernel
theorem dX7_best_89 : decode cX7_best 89 = .ok (.iload 4, 2) := by decide +kernel
theorem dX7_best_91 : decode cX7_best 91 = .ok (.goto 5, 3) := by decide +kernel
theorem dX7_best_94 : decode cX7_best 94 = .ok (.iload 5, 2) := by decide +kernel
theorem dX7_best_96 : decode cX7_best 96 = .ok (.ireturn, 1) := by decide +kernel
theorem dX7_plan_0 : decode cX7_plan 0 = .ok (.aload_n 0, 1) := by decide +kernel
theorem dX7_plan_1 : decode cX7_plan 1 = .ok (.getfield 19, 3) := by decide +kernel
theorem dX7_plan_4 : decode cX7_plan 4 = .ok (.iload_n 1, 1) := by decide +kernel
theorem dX7_plan_5 : decode cX7_plan 5 = .ok (.invokevirtual 94, 3) := by decide +kernel
theorem dX7_plan_8 : decode cX7_plan 8 = .ok (.ifnonnull 5, 3) := by decide +kernel
theorem dX7_plan_11 : decode cX7_plan 11 = .ok (.iconst (-1), 1) := by decide +kernel
theorem dX7_plan_12 : decode cX7_plan 12 = .ok (.ireturn, 1) := by decide +kernel
theorem dX7_plan_13 : decode cX7_plan 13 = .ok (.iload_n 2, 1) := by decide +kernel
theorem dX7_plan_14 : decode cX7_plan 14 = .ok (.iconst 1, 1) := by decide +kernel
theorem dX7_plan_15 : decode cX7_plan 15 = .ok (.if_icmp .lt 24, 3) := by decide +kernel
theorem dX7_plan_18 : decode cX7_plan 18 = .ok (.iload_n 2, 1) := by decide +kernel
theorem dX7_plan_19 : decode cX7_plan 19 = .ok (.iconst 4, 1) := by decide +kernel
theorem dX7_plan_20 : decode cX7_plan 20 = .ok (.if_icmp .gt 19, 3) := by decide +kernel
theorem dX7_plan_23 : decode cX7_plan 23 = .ok (.iload_n 3, 1) := by decide +kernel
theorem dX7_plan_24 : decode cX7_plan 24 = .ok (.ifCond .lt 15, 3) := by decide +kernel
theorem dX7_plan_27 : decode cX7_plan 27 = .ok (.iload_n 3, 1) := by decide +kernel
theorem dX7_plan_28 : decode cX7_plan 28 = .ok (.i2l, 1) := by decide +kernel
theorem dX7_plan_29 : decode cX7_plan 29 = .ok (.iconst 2, 1) := by decide +kernel
theorem dX7_plan_30 : decode cX7_plan 30 = .ok (.iload_n 2, 1) := by decide +kernel
theorem dX7_plan_31 : decode cX7_plan 31 = .ok (.imul, 1) := by decide +kernel
theorem dX7_plan_32 : decode cX7_plan 32 = .ok (.invokestatic 207, 3) := by decide +kernel
theorem dX7_plan_35 : decode cX7_plan 35 = .ok (.lcmp, 1) := by decide +kernel
theorem dX7_plan_36 : decode cX7_plan 36 = .ok (.ifCond .lt 6, 3) := by decide +kernel
theorem dX7_plan_39 : decode cX7_plan 39 = .ok (.bipush (-2), 2) := by decide +kernel
theorem dX7_plan_41 : decode cX7_plan 41 = .ok (.ireturn, 1) := by decide +kernel
theorem dX7_plan_42 : decode cX7_plan 42 = .ok (.aload_n 0, 1) := by decide +kernel
theorem dX7_plan_43 : decode cX7_plan 43 = .ok (.getfield 23, 3) := by decide +kernel
theorem dX7_plan_46 : decode cX7_plan 46 = .ok (.aload_n 0, 1) := by decide +kernel
theorem dX7_plan_47 : decode cX7_plan 47 = .ok (.getfield 19, 3) := by decide +kernel
theorem dX7_plan_50 : decode cX7_plan 50 = .ok (.invokevirtual 84, 3) := by decide +kernel
theorem dX7_plan_53 : decode cX7_plan 53 = .ok (.iconst 2, 1) := by decide +kernel
theorem dX7_plan_54 : decode cX7_plan 54 = .ok (.iload_n 2, 1) := by decide +kernel
theorem dX7_plan_55 : decode cX7_plan 55 = .ok (.imul, 1) := by decide +kernel
theorem dX7_plan_56 : decode cX7_plan 56 = .ok (.iconst 2, 1) := by decide +kernel
theorem dX7_plan_57 : decode cX7_plan 57 = .ok (.isub, 1) := by decide +kernel
theorem dX7_plan_58 : decode cX7_plan 58 = .ok (.invokestatic 207, 3) := by decide +kernel
theorem dX7_plan_61 : decode cX7_plan 61 = .ok (.lstore 4, 2) := by decide +kernel
theorem dX7_plan_63 : decode cX7_plan 63 = .ok (.iconst 0, 1) := by decide +kernel
theorem dX7_plan_64 : decode cX7_plan 64 = .ok (.istore 6, 2) := by decide +kernel
theorem dX7_plan_66 : decode cX7_plan 66 = .ok (.iload 6, 2) := by decide +kernel
theorem dX7_plan_68 : decode cX7_plan 68 = .ok (.iload_n 2, 1) := by decide +kernel
theorem dX7_plan_69 : decode cX7_plan 69 = .ok (.if_icmp .ge 57, 3) := by decide +kernel
theorem dX7_plan_72 : decode cX7_plan 72 = .ok (.lload 4, 2) := by decide +kernel
theorem dX7_plan_74 : decode cX7_plan 74 = .ok (.lconst 0, 1) := by decide +kernel
theorem dX7_plan_75 : decode cX7_plan 75 = .ok (.lcmp, 1) := by decide +kernel
theorem dX7_plan_76 : decode cX7_plan 76 = .ok (.ifCond .le 50, 3) := by decide +kernel
theorem dX7_plan_79 : decode cX7_plan 79 = .ok (.iload_n 3, 1) := by decide +kernel
theorem dX7_plan_80 : decode cX7_plan 80 = .ok (.i2l, 1) := by decide +kernel
theorem dX7_plan_81 : decode cX7_plan 81 = .ok (.lload 4, 2) := by decide +kernel
theorem dX7_plan_83 : decode cX7_plan 83 = .ok (.ldiv, 1) := by decide +kernel
theorem dX7_plan_84 : decode cX7_plan 84 = .ok (.ldc2_w 211, 3) := by decide +kernel
theorem dX7_plan_87 : decode cX7_plan 87 = .ok (.lrem, 1) := by decide +kernel
theorem dX7_plan_88 : decode cX7_plan 88 = .ok (.l2i, 1) := by decide +kernel
theorem dX7_plan_89 : decode cX7_plan 89 = .ok (.istore 7, 2) := by decide +kernel
theorem dX7_plan_91 : decode cX7_plan 91 = .ok (.iload 7, 2) := by decide +kernel
theorem dX7_plan_93 : decode cX7_plan 93 = .ok (.invokestatic 147, 3) := by decide +kernel
theorem dX7_plan_96 : decode cX7_plan 96 = .ok (.ifCond .ne 5, 3) := by decide +kernel
theorem dX7_plan_99 : decode cX7_plan 99 = .ok (.iconst (-1), 1) := by decide +kernel
theorem dX7_plan_100 : decode cX7_plan 100 = .ok (.ireturn, 1) := by decide +kernel
theorem dX7_plan_101 : decode cX7_plan 101 = .ok (.aload_n 0, 1) := by decide +kernel
theorem dX7_plan_102 : decode cX7_plan 102 = .ok (.getfield 23, 3) := by decide +kernel
theorem dX7_plan_105 : decode cX7_plan 105 = .ok (.iload_n 1, 1) := by decide +kernel
theorem dX7_plan_106 : decode cX7_plan 106 = .ok (.iload 7, 2) := by decide +kernel
theorem dX7_plan_108 : decode cX7_plan 108 = .ok (.invokevirtual 164, 3) := by decide +kernel
theorem dX7_plan_111 : decode cX7_plan 111 = .ok (.pop, 1) := by decide +kernel
theorem dX7_plan_112 : decode cX7_plan 112 = .ok (.lload 4, 2) := by decide +kernel
theorem dX7_plan_114 : decode cX7_plan 114 = .ok (.ldc2_w 211, 3) := by decide +kernel
theorem dX7_plan_117 : decode cX7_plan 117 = .ok (.ldiv, 1) := by decide +kernel
theorem dX7_plan_118 : decode cX7_plan 118 = .ok (.lstore 4, 2) := by decide +kernel
theorem dX7_plan_120 : decode cX7_plan 120 = .ok (.iinc 6 1, 3) := by decide +kernel
theorem dX7_plan_123 : decode cX7_plan 123 = .ok (.goto (-57), 3) := by decide +kernel
theorem dX7_plan_126 : decode cX7_plan 126 = .ok (.aload_n 0, 1) := by decide +kernel
theorem dX7_plan_127 : decode cX7_plan 127 = .ok (.getfield 23, 3) := by decide +kernel
theorem dX7_plan_130 : decode cX7_plan 130 = .ok (.invokevirtual 213, 3) := by decide +kernel
theorem dX7_plan_133 : decode cX7_plan 133 = .ok (.aload_n 0, 1) := by decide +kernel
theorem dX7_plan_134 : decode cX7_plan 134 = .ok (.getfield 19, 3) := by decide +kernel
theorem dX7_plan_137 : decode cX7_plan 137 = .ok (.invokevirtual 213, 3) := by decide +kernel
theorem dX7_plan_140 : decode cX7_plan 140 = .ok (.isub, 1) := by decide +kernel
theorem dX7_plan_141 : decode cX7_plan 141 = .ok (.ireturn, 1) := by decide +kernel
theorem dX7_order_0 : decode cX7_order 0 = .ok (.aload_n 0, 1) := by decide +kernel
theorem dX7_order_1 : decode cX7_order 1 = .ok (.getfield 19, 3) := by decide +kernel
theorem dX7_order_4 : decode cX7_order 4 = .ok (.iload_n 1, 1) := by decide +kernel
theorem dX7_order_5 : decode cX7_order 5 = .ok (.invokevirtual 94, 3) := by decide +kernel
theorem dX7_order_8 : decode cX7_order 8 = .ok (.ifnonnull 5, 3) := by decide +kernel
theorem dX7_order_11 : decode cX7_order 11 = .ok (.iconst (-1), 1) := by decide +kernel
theorem dX7_order_12 : decode cX7_order 12 = .ok (.ireturn, 1) := by decide +kernel
theorem dX7_order_13 : decode cX7_order 13 = .ok (.iload_n 2, 1) := by decide +kernel
theorem dX7_order_14 : decode cX7_order 14 = .ok (.invokestatic 122, 3) := by decide +kernel
theorem dX7_order_17 : decode cX7_order 17 = .ok (.istore 4, 2) := by decide +kernel
theorem dX7_order_19 : decode cX7_order 19 = .ok (.iload 4, 2) := by decide +kernel
theorem dX7_order_21 : decode cX7_order 21 = .ok (.iconst 1, 1) := by decide +kernel
theorem dX7_order_22 : decode cX7_order 22 = .ok (.if_icmp .lt 14, 3) := by decide +kernel
theorem dX7_order_25 : decode cX7_order 25 = .ok (.iload 4, 2) := by decide +kernel
theorem dX7_order_27 : decode cX7_order 27 = .ok (.iconst 5, 1) := by decide +kernel
theorem dX7_order_28 : decode cX7_order 28 = .ok (.if_icmp .gt 8, 3) := by decide +kernel
theorem dX7_order_31 : decode cX7_order 31 = .ok (.iload_n 3, 1) := by decide +kernel
theorem dX7_order_32 : decode cX7_order 32 = .ok (.iconst (-1), 1) := by decide +kernel
theorem dX7_order_33 : decode cX7_order 33 = .ok (.if_icmp .ge 6, 3) := by decide +kernel
theorem dX7_order_36 : decode cX7_order 36 = .ok (.bipush (-2), 2) := by decide +kernel
theorem dX7_order_38 : decode cX7_order 38 = .ok (.ireturn, 1) := by decide +kernel
theorem dX7_order_39 : decode cX7_order 39 = .ok (.aload_n 0, 1) := by decide +kernel
theorem dX7_order_40 : decode cX7_order 40 = .ok (.iload_n 1, 1) := by decide +kernel
theorem dX7_order_41 : decode cX7_order 41 = .ok (.iload_n 2, 1) := by decide +kernel
theorem dX7_order_42 : decode cX7_order 42 = .ok (.invokevirtual 216, 3) := by decide +kernel
theorem dX7_order_45 : decode cX7_order 45 = .ok (.istore 5, 2) := by decide +kernel
theorem dX7_order_47 : decode cX7_order 47 = .ok (.iload_n 3, 1) := by decide +kernel
theorem dX7_order_48 : decode cX7_order 48 = .ok (.ifCond .ge 6, 3) := by decide +kernel
theorem dX7_order_51 : decode cX7_order 51 = .ok (.iload 5, 2) := by decide +kernel
theorem dX7_order_53 : decode cX7_order 53 = .ok (.ireturn, 1) := by decide +kernel
theorem dX7_order_54 : decode cX7_order 54 = .ok (.aload_n 0, 1) := by decide +kernel
theorem dX7_order_55 : decode cX7_order 55 = .ok (.getfield 55, 3) := by decide +kernel
theorem dX7_order_58 : decode cX7_order 58 = .ok (.iload_n 3, 1) := by decide +kernel
theorem dX7_order_59 : decode cX7_order 59 = .ok (.invokevirtual 219, 3) := by decide +kernel
theorem dX7_order_62 : decode cX7_order 62 = .ok (.ireturn, 1) := by decide +kernel
theorem dX7_judge_0 : decode cX7_judge 0 = .ok (.iload_n 1, 1) := by decide +kernel
theorem dX7_judge_1 : decode cX7_judge 1 = .ok (.iconst 1, 1) := by decide +kernel
theorem dX7_judge_2 : decode cX7_judge 2 = .ok (.if_icmp .lt 25, 3) := by decide +kernel
theorem dX7_judge_5 : decode cX7_judge 5 = .ok (.iload_n 1, 1) := by decide +kernel
theorem dX7_judge_6 : decode cX7_judge 6 = .ok (.iconst 3, 1) := by decide +kernel
theorem dX7_judge_7 : decode cX7_judge 7 = .ok (.if_icmp .gt 20, 3) := by decide +kernel
theorem dX7_judge_10 : decode cX7_judge 10 = .ok (.lload_n 2, 1) := by decide +kernel
theorem dX7_judge_11 : decode cX7_judge 11 = .ok (.lconst 0, 1) := by decide +kernel
theorem dX7_judge_12 : decode cX7_judge 12 = .ok (.lcmp, 1) := by decide +kernel
theorem dX7_judge_13 : decode cX7_judge 13 = .ok (.ifCond .lt 14, 3) := by decide +kernel
theorem dX7_judge_16 : decode cX7_judge 16 = .ok (.lload_n 2, 1) := by decide +kernel
theorem dX7_judge_17 : decode cX7_judge 17 = .ok (.iconst 5, 1) := by decide +kernel
theorem dX7_judge_18 : decode cX7_judge 18 = .ok (.iload_n 1, 1) := by decide +kernel
theorem dX7_judge_19 : decode cX7_judge 19 = .ok (.imul, 1) := by decide +kernel
theorem dX7_judge_20 : decode cX7_judge 20 = .ok (.invokestatic 207, 3) := by decide +kernel
theorem dX7_judge_23 : decode cX7_judge 23 = .ok (.lcmp, 1) := by decide +kernel
theorem dX7_judge_24 : decode cX7_judge 24 = .ok (.ifCond .lt 6, 3) := by decide +kernel
theorem dX7_judge_27 : decode cX7_judge 27 = .ok (.bipush (-2), 2) := by decide +kernel
theorem dX7_judge_29 : decode cX7_judge 29 = .ok (.ireturn, 1) := by decide +kernel
theorem dX7_judge_30 : decode cX7_judge 30 = .ok (.aload_n 0, 1) := by decide +kernel
theorem dX7_judge_31 : decode cX7_judge 31 = .ok (.getfield 23, 3) := by decide +kernel
theorem dX7_judge_34 : decode cX7_judge 34 = .ok (.aload_n 0, 1) := by decide +kernel
theorem dX7_judge_35 : decode cX7_judge 35 = .ok (.getfield 19, 3) := by decide +kernel
theorem dX7_judge_38 : decode cX7_judge 38 = .ok (.invokevirtual 84, 3) := by decide +kernel
theorem dX7_judge_41 : decode cX7_judge 41 = .ok (.iconst 5, 1) := by decide +kernel
theorem dX7_judge_42 : decode cX7_judge 42 = .ok (.iload_n 1, 1) := by decide +kernel
theorem dX7_judge_43 : decode cX7_judge 43 = .ok (.imul, 1) := by decide +kernel
theorem dX7_judge_44 : decode cX7_judge 44 = .ok (.iconst 5, 1) := by decide +kernel
theorem dX7_judge_45 : decode cX7_judge 45 = .ok (.isub, 1) := by decide +kernel
theorem dX7_judge_46 : decode cX7_judge 46 = .ok (.invokestatic 207, 3) := by decide +kernel
theorem dX7_judge_49 : decode cX7_judge 49 = .ok (.lstore 4, 2) := by decide +kernel
theorem dX7_judge_51 : decode cX7_judge 51 = .ok (.iconst 0, 1) := by decide +kernel
theorem dX7_judge_52 : decode cX7_judge 52 = .ok (.istore 6, 2) := by decide +kernel
theorem dX7_judge_54 : decode cX7_judge 54 = .ok (.iload 6, 2) := by decide +kernel
theorem dX7_judge_56 : decode cX7_judge 56 = .ok (.iload_n 1, 1) := by decide +kernel
theorem dX7_judge_57 : decode cX7_judge 57 = .ok (.if_icmp .ge 46, 3) := by decide +kernel
theorem dX7_judge_60 : decode cX7_judge 60 = .ok (.lload 4, 2) := by decide +kernel
theorem dX7_judge_62 : decode cX7_judge 62 = .ok (.lconst 0, 1) := by decide +kernel
theorem dX7_judge_63 : decode cX7_judge 63 = .ok (.lcmp, 1) := by decide +kernel
theorem dX7_judge_64 : decode cX7_judge 64 = .ok (.ifCond .le 39, 3) := by decide +kernel
theorem dX7_judge_67 : decode cX7_judge 67 = .ok (.aload_n 0, 1) := by decide +kernel
theorem dX7_judge_68 : decode cX7_judge 68 = .ok (.getfield 23, 3) := by decide +kernel
theorem dX7_judge_71 : decode cX7_judge 71 = .ok (.lload_n 2, 1) := by decide +kernel
theorem dX7_judge_72 : decode cX7_judge 72 = .ok (.lload 4, 2) := by decide +kernel
theorem dX7_judge_74 : decode cX7_judge 74 = .ok (.ldiv, 1) := by decide +kernel
theorem dX7_judge_75 : decode cX7_judge 75 = .ok (.ldc2_w 220, 3) := by decide +kernel
theorem dX7_judge_78 : decode cX7_judge 78 = .ok (.lrem, 1) := by decide +kernel
theorem dX7_judge_79 : decode cX7_judge 79 = .ok (.l2i, 1) := by decide +kernel
theorem dX7_judge_80 : decode cX7_judge 80 = .ok (.invokestatic 222, 3) := by decide +kernel
theorem dX7_judge_83 : decode cX7_judge 83 = .ok (.ifCond .ne 6, 3) := by decide +kernel
theorem dX7_judge_86 : decode cX7_judge 86 = .ok (.iload 6, 2) := by decide +kernel
theorem dX7_judge_88 : decode cX7_judge 88 = .ok (.ireturn, 1) := by decide +kernel
theorem dX7_judge_89 : decode cX7_judge 89 = .ok (.lload 4, 2) := by decide +kernel
theorem dX7_judge_91 : decode cX7_judge 91 = .ok (.ldc2_w 220, 3) := by decide +kernel
theorem dX7_judge_94 : decode cX7_judge 94 = .ok (.ldiv, 1) := by decide +kernel
theorem dX7_judge_95 : decode cX7_judge 95 = .ok (.lstore 4, 2) := by decide +kernel
theorem dX7_judge_97 : decode cX7_judge 97 = .ok (.iinc 6 1, 3) := by decide +kernel
theorem dX7_judge_100 : decode cX7_judge 100 = .ok (.goto (-46), 3) := by decide +kernel
theorem dX7_judge_103 : decode cX7_judge 103 = .ok (.bipush (-9), 2) := by decide +kernel
theorem dX7_judge_105 : decode cX7_judge 105 = .ok (.ireturn, 1) := by decide +kernel
theorem dX7_see_0 : decode cX7_see 0 = .ok (.aload_n 0, 1) := by decide +kernel
theorem dX7_see_1 : decode cX7_see 1 = .ok (.getfield 19, 3) := by decide +kernel
theorem dX7_see_4 : decode cX7_see 4 = .ok (.iload_n 1, 1) := by decide +kernel
theorem dX7_see_5 : decode cX7_see 5 = .ok (.invokevirtual 94, 3) := by decide +kernel
theorem dX7_see_8 : decode cX7_see 8 = .ok (.ifnonnull 5, 3) := by decide +kernel
theorem dX7_see_11 : decode cX7_see 11 = .ok (.iconst (-1), 1) := by decide +kernel
theorem dX7_see_12 : decode cX7_see 12 = .ok (.ireturn, 1) := by decide +kernel
theorem dX7_see_13 : decode cX7_see 13 = .ok (.iload_n 2, 1) := by decide +kernel
theorem dX7_see_14 : decode cX7_see 14 = .ok (.ifCond .lt 17, 3) := by decide +kernel
theorem dX7_see_17 : decode cX7_see 17 = .ok (.iload_n 2, 1) := by decide +kernel
theorem dX7_see_18 : decode cX7_see 18 = .ok (.iconst 2, 1) := by decide +kernel
theorem dX7_see_19 : decode cX7_see 19 = .ok (.if_icmp .gt 12, 3) := by decide +kernel
theorem dX7_see_22 : decode cX7_see 22 = .ok (.iload_n 3, 1) := by decide +kernel
theorem dX7_see_23 : decode cX7_see 23 = .ok (.ifCond .lt 8, 3) := by decide +kernel
theorem dX7_see_26 : decode cX7_see 26 = .ok (.iload_n 3, 1) := by decide +kernel
theorem dX7_see_27 : decode cX7_see 27 = .ok (.iconst 1, 1) := by decide +kernel
theorem dX7_see_28 : decode cX7_see 28 = .ok (.if_icmp .le 6, 3) := by decide +kernel
theorem dX7_see_31 : decode cX7_see 31 = .ok (.bipush (-2), 2) := by decide +kernel
theorem dX7_see_33 : decode cX7_see 33 = .ok (.ireturn, 1) := by decide +kernel
theorem dX7_see_34 : decode cX7_see 34 = .ok (.aload_n 0, 1) := by decide +kernel
theorem dX7_see_35 : decode cX7_see 35 = .ok (.getfield 44, 3) := by decide +kernel
theorem dX7_see_38 : decode cX7_see 38 = .ok (.iload_n 1, 1) := by decide +kernel
theorem dX7_see_39 : decode cX7_see 39 = .ok (.iload_n 2, 1) := by decide +kernel
theorem dX7_see_40 : decode cX7_see 40 = .ok (.iload_n 3, 1) := by decide +kernel
theorem dX7_see_41 : decode cX7_see 41 = .ok (.iconst 1, 1) := by decide +kernel
theorem dX7_see_42 : decode cX7_see 42 = .ok (.if_icmp .ne 7, 3) := by decide +kernel
theorem dX7_see_45 : decode cX7_see 45 = .ok (.iconst 1, 1) := by decide +kernel
theorem dX7_see_46 : decode cX7_see 46 = .ok (.goto 4, 3) := by decide +kernel
theorem dX7_see_49 : decode cX7_see 49 = .ok (.iconst 0, 1) := by decide +kernel
theorem dX7_see_50 : decode cX7_see 50 = .ok (.invokevirtual 226, 3) := by decide +kernel
theorem dX7_see_53 : decode cX7_see 53 = .ok (.ifCond .eq 13, 3) := by decide +kernel
theorem dX7_see_56 : decode cX7_see 56 = .ok (.aload_n 0, 1) := by decide +kernel
theorem dX7_see_57 : decode cX7_see 57 = .ok (.getfield 44, 3) := by decide +kernel
theorem dX7_see_60 : decode cX7_see 60 = .ok (.getfield 230, 3) := by decide +kernel
theorem dX7_see_63 : decode cX7_see 63 = .ok (.goto 5, 3) := by decide +kernel
theorem dX7_see_66 : decode cX7_see 66 = .ok (.bipush (-4), 2) := by decide +kernel
theorem dX7_see_68 : decode cX7_see 68 = .ok (.ireturn, 1) := by decide +kernel
theorem dX7_unsee_0 : decode cX7_unsee 0 = .ok (.aload_n 0, 1) := by decide +kernel
theorem dX7_unsee_1 : decode cX7_unsee 1 = .ok (.getfield 44, 3) := by decide +kernel
theorem dX7_unsee_4 : decode cX7_unsee 4 = .ok (.getfield 230, 3) := by decide +kernel
theorem dX7_unsee_7 : decode cX7_unsee 7 = .ok (.istore_n 1, 1) := by decide +kernel
theorem dX7_unsee_8 : decode cX7_unsee 8 = .ok (.aload_n 0, 1) := by decide +kernel
theorem dX7_unsee_9 : decode cX7_unsee 9 = .ok (.getfield 44, 3) := by decide +kernel
theorem dX7_unsee_12 : decode cX7_unsee 12 = .ok (.iconst 0, 1) := by decide +kernel
theorem dX7_unsee_13 : decode cX7_unsee 13 = .ok (.putfield 230, 3) := by decide +kernel
theorem dX7_unsee_16 : decode cX7_unsee 16 = .ok (.iload_n 1, 1) := by decide +kernel
theorem dX7_unsee_17 : decode cX7_unsee 17 = .ok (.ireturn, 1) := by decide +kernel
theorem dX7_which_0 : decode cX7_which 0 = .ok (.aload_n 0, 1) := by decide +kernel
theorem dX7_which_1 : decode cX7_which 1 = .ok (.getfield 44, 3) := by decide +kernel
theorem dX7_which_4 : decode cX7_which 4 = .ok (.aload_n 0, 1) := by decide +kernel
theorem dX7_which_5 : decode cX7_which 5 = .ok (.getfield 19, 3) := by decide +kernel
theorem dX7_which_8 : decode cX7_which 8 = .ok (.invokevirtual 231, 3) := by decide +kernel
theorem dX7_which_11 : decode cX7_which 11 = .ok (.ireturn, 1) := by decide +kernel
theorem dX7_share_0 : decode cX7_share 0 = .ok (.aload_n 0, 1) := by decide +kernel
theorem dX7_share_1 : decode cX7_share 1 = .ok (.getfield 19, 3) := by decide +kernel
theorem dX7_share_4 : decode cX7_share 4 = .ok (.iload_n 1, 1) := by decide +kernel
theorem dX7_share_5 : decode cX7_share 5 = .ok (.invokevirtual 94, 3) := by decide +kernel
theorem dX7_share_8 : decode cX7_share 8 = .ok (.astore_n 3, 1) := by decide +kernel
theorem dX7_share_9 : decode cX7_share 9 = .ok (.aload_n 3, 1) := by decide +kernel
theorem dX7_share_10 : decode cX7_share 10 = .ok (.ifnonnull 5, 3) := by decide +kernel
theorem dX7_share_13 : decode cX7_share 13 = .ok (.iconst (-1), 1) := by decide +kernel
theorem dX7_share_14 : decode cX7_share 14 = .ok (.ireturn, 1) := by decide +kernel
theorem dX7_share_15 : decode cX7_share 15 = .ok (.iconst 0, 1) := by decide +kernel
theorem dX7_share_16 : decode cX7_share 16 = .ok (.istore 4, 2) := by decide +kernel
theorem dX7_share_18 : decode cX7_share 18 = .ok (.iconst 0, 1) := by decide +kernel
theorem dX7_share_19 : decode cX7_share 19 = .ok (.istore 5, 2) := by decide +kernel
theorem dX7_share_21 : decode cX7_share 21 = .ok (.iload 5, 2) := by decide +kernel
theorem dX7_share_23 : decode cX7_share 23 = .ok (.aload_n 3, 1) := by decide +kernel
theorem dX7_share_24 : decode cX7_share 24 = .ok (.getfield 106, 3) := by decide +kernel
theorem dX7_share_27 : decode cX7_share 27 = .ok (.if_icmp .ge 39, 3) := by decide +kernel
theorem dX7_share_30 : decode cX7_share 30 = .ok (.aload_n 0, 1) := by decide +kernel
theorem dX7_share_31 : decode cX7_share 31 = .ok (.getfield 19, 3) := by decide +kernel
theorem dX7_share_34 : decode cX7_share 34 = .ok (.aload_n 3, 1) := by decide +kernel
theorem dX7_share_35 : decode cX7_share 35 = .ok (.iload 5, 2) := by decide +kernel
theorem dX7_share_37 : decode cX7_share 37 = .ok (.invokevirtual 128, 3) := by decide +kernel
theorem dX7_share_40 : decode cX7_share 40 = .ok (.invokevirtual 235, 3) := by decide +kernel
theorem dX7_share_43 : decode cX7_share 43 = .ok (.istore 6, 2) := by decide +kernel
theorem dX7_share_45 : decode cX7_share 45 = .ok (.iload 6, 2) := by decide +kernel
theorem dX7_share_47 : decode cX7_share 47 = .ok (.ifCond .le 13, 3) := by decide +kernel
theorem dX7_share_50 : decode cX7_share 50 = .ok (.iload 4, 2) := by decide +kernel
theorem dX7_share_52 : decode cX7_share 52 = .ok (.bipush 12, 2) := by decide +kernel
theorem dX7_share_54 : decode cX7_share 54 = .ok (.iload 6, 2) := by decide +kernel
theorem dX7_share_56 : decode cX7_share 56 = .ok (.idiv, 1) := by decide +kernel
theorem dX7_share_57 : decode cX7_share 57 = .ok (.iadd, 1) := by decide +kernel
theorem dX7_share_58 : decode cX7_share 58 = .ok (.istore 4, 2) := by decide +kernel
theorem dX7_share_60 : decode cX7_share 60 = .ok (.iinc 5 1, 3) := by decide +kernel
theorem dX7_share_63 : decode cX7_share 63 = .ok (.goto (-42), 3) := by decide +kernel
theorem dX7_share_66 : decode cX7_share 66 = .ok (.iload 4, 2) := by decide +kernel
theorem dX7_share_68 : decode cX7_share 68 = .ok (.bipush 12, 2) := by decide +kernel
theorem dX7_share_70 : decode cX7_share 70 = .ok (.iload_n 2, 1) := by decide +kernel
theorem dX7_share_71 : decode cX7_share 71 = .ok (.invokestatic 238, 3) := by decide +kernel
theorem dX7_share_74 : decode cX7_share 74 = .ok (.ireturn, 1) := by decide +kernel
theorem dX7_lost_0 : decode cX7_lost 0 = .ok (.aload_n 0, 1) := by decide +kernel
theorem dX7_lost_1 : decode cX7_lost 1 = .ok (.getfield 19, 3) := by decide +kernel
theorem dX7_lost_4 : decode cX7_lost 4 = .ok (.iload_n 1, 1) := by decide +kernel
theorem dX7_lost_5 : decode cX7_lost 5 = .ok (.invokevirtual 94, 3) := by decide +kernel
theorem dX7_lost_8 : decode cX7_lost 8 = .ok (.astore 5, 2) := by decide +kernel
theorem dX7_lost_10 : decode cX7_lost 10 = .ok (.aload 5, 2) := by decide +kernel
theorem dX7_lost_12 : decode cX7_lost 12 = .ok (.ifnull 10, 3) := by decide +kernel
theorem dX7_lost_15 : decode cX7_lost 15 = .ok (.iload_n 2, 1) := by decide +kernel
theorem dX7_lost_16 : decode cX7_lost 16 = .ok (.invokestatic 147, 3) := by decide +kernel
theorem dX7_lost_19 : decode cX7_lost 19 = .ok (.ifCond .ne 5, 3) := by decide +kernel
theorem dX7_lost_22 : decode cX7_lost 22 = .ok (.iconst (-1), 1) := by decide +kernel
theorem dX7_lost_23 : decode cX7_lost 23 = .ok (.ireturn, 1) := by decide +kernel
theorem dX7_lost_24 : decode cX7_lost 24 = .ok (.iload_n 3, 1) := by decide +kernel
theorem dX7_lost_25 : decode cX7_lost 25 = .ok (.ifCond .lt 9, 3) := by decide +kernel
theorem dX7_lost_28 : decode cX7_lost 28 = .ok (.iload_n 3, 1) := by decide +kernel
theorem dX7_lost_29 : decode cX7_lost 29 = .ok (.bipush 10, 2) := by decide +kernel
theorem dX7_lost_31 : decode cX7_lost 31 = .ok (.if_icmp .le 6, 3) := by decide +kernel
theorem dX7_lost_34 : decode cX7_lost 34 = .ok (.bipush (-2), 2) := by decide +kernel
theorem dX7_lost_36 : decode cX7_lost 36 = .ok (.ireturn, 1) := by decide +kernel
theorem dX7_lost_37 : decode cX7_lost 37 = .ok (.aload 5, 2) := by decide +kernel
theorem dX7_lost_39 : decode cX7_lost 39 = .ok (.iload_n 2, 1) := by decide +kernel
theorem dX7_lost_40 : decode cX7_lost 40 = .ok (.invokevirtual 168, 3) := by decide +kernel
theorem dX7_lost_43 : decode cX7_lost 43 = .ok (.ifCond .eq 5, 3) := by decide +kernel
theorem dX7_lost_46 : decode cX7_lost 46 = .ok (.iconst 1, 1) := by decide +kernel
theorem dX7_lost_47 : decode cX7_lost 47 = .ok (.ireturn, 1) := by decide +kernel
theorem dX7_lost_48 : decode cX7_lost 48 = .ok (.iconst 1, 1) := by decide +kernel
theorem dX7_lost_49 : decode cX7_lost 49 = .ok (.aload_n 0, 1) := by decide +kernel
theorem dX7_lost_50 : decode cX7_lost 50 = .ok (.getfield 19, 3) := by decide +kernel
theorem dX7_lost_53 : decode cX7_lost 53 = .ok (.getfield 91, 3) := by decide +kernel
theorem dX7_lost_56 : decode cX7_lost 56 = .ok (.ishl, 1) := by decide +kernel
theorem dX7_lost_57 : decode cX7_lost 57 = .ok (.istore 6, 2) := by decide +kernel
theorem dX7_lost_59 : decode cX7_lost 59 = .ok (.iconst 0, 1) := by decide +kernel
theorem dX7_lost_60 : decode cX7_lost 60 = .ok (.istore 7, 2) := by decide +kernel
theorem dX7_lost_62 : decode cX7_lost 62 = .ok (.iconst 0, 1) := by decide +kernel
theorem dX7_lost_63 : decode cX7_lost 63 = .ok (.istore 8, 2) := by decide +kernel
theorem dX7_lost_65 : decode cX7_lost 65 = .ok (.iload 8, 2) := by decide +kernel
theorem dX7_lost_67 : decode cX7_lost 67 = .ok (.iload 6, 2) := by decide +kernel
theorem dX7_lost_69 : decode cX7_lost 69 = .ok (.if_icmp .ge 35, 3) := by decide +kernel
theorem dX7_lost_72 : decode cX7_lost 72 = .ok (.aload_n 0, 1) := by decide +kernel
theorem dX7_lost_73 : decode cX7_lost 73 = .ok (.getfield 19, 3) := by decide +kernel
theorem dX7_lost_76 : decode cX7_lost 76 = .ok (.iload_n 1, 1) := by decide +kernel
theorem dX7_lost_77 : decode cX7_lost 77 = .ok (.iload_n 2, 1) := by decide +kernel
theorem dX7_lost_78 : decode cX7_lost 78 = .ok (.iload 8, 2) := by decide +kernel
theorem dX7_lost_80 : decode cX7_lost 80 = .ok (.invokevirtual 242, 3) := by decide +kernel
theorem dX7_lost_83 : decode cX7_lost 83 = .ok (.ifCond .eq 15, 3) := by decide +kernel
theorem dX7_lost_86 : decode cX7_lost 86 = .ok (.iload 7, 2) := by decide +kernel
theorem dX7_lost_88 : decode cX7_lost 88 = .ok (.aload_n 0, 1) := by decide +kernel
theorem dX7_lost_89 : decode cX7_lost 89 = .ok (.iload 8, 2) := by decide +kernel
theorem dX7_lost_91 : decode cX7_lost 91 = .ok (.iload_n 3, 1) := by decide +kernel
theorem dX7_lost_92 : decode cX7_lost 92 = .ok (.invokevirtual 246, 3) := by decide +kernel
theorem dX7_lost_95 : decode cX7_lost 95 = .ok (.iadd, 1) := by decide +kernel
theorem dX7_lost_96 : decode cX7_lost 96 = .ok (.istore 7, 2) := by decide +kernel
theorem dX7_lost_98 : decode cX7_lost 98 = .ok (.iinc 8 1, 3) := by decide +kernel
theorem dX7_lost_101 : decode cX7_lost 101 = .ok (.goto (-36), 3) := by decide +kernel
theorem dX7_lost_104 : decode cX7_lost 104 = .ok (.iload 7, 2) := by decide +kernel
theorem dX7_lost_106 : decode cX7_lost 106 = .ok (.aload_n 0, 1) := by decide +kernel
theorem dX7_lost_107 : decode cX7_lost 107 = .ok (.getfield 19, 3) := by decide +kernel
theorem dX7_lost_110 : decode cX7_lost 110 = .ok (.getfield 91, 3) := by decide +kernel
theorem dX7_lost_113 : decode cX7_lost 113 = .ok (.invokestatic 207, 3) := by decide +kernel
theorem dX7_lost_116 : decode cX7_lost 116 = .ok (.l2i, 1) := by decide +kernel
theorem dX7_lost_117 : decode cX7_lost 117 = .ok (.iload 4, 2) := by decide +kernel
theorem dX7_lost_119 : decode cX7_lost 119 = .ok (.invokestatic 238, 3) := by decide +kernel
theorem dX7_lost_122 : decode cX7_lost 122 = .ok (.ireturn, 1) := by decide +kernel
theorem dX7_seed_0 : decode cX7_seed 0 = .ok (.aload_n 0, 1) := by decide +kernel
theorem dX7_seed_1 : decode cX7_seed 1 = .ok (.getfield 58, 3) := by decide +kernel
theorem dX7_seed_4 : decode cX7_seed 4 = .ok (.lstore_n 3, 1) := by decide +kernel
theorem dX7_seed_5 : decode cX7_seed 5 = .ok (.aload_n 0, 1) := by decide +kernel
theorem dX7_seed_6 : decode cX7_seed 6 = .ok (.lload_n 1, 1) := by decide +kernel
theorem dX7_seed_7 : decode cX7_seed 7 = .ok (.putfield 58, 3) := by decide +kernel
theorem dX7_seed_10 : decode cX7_seed 10 = .ok (.lload_n 3, 1) := by decide +kernel
theorem dX7_seed_11 : decode cX7_seed 11 = .ok (.lreturn, 1) := by decide +kernel
theorem dX7_drawn_0 : decode cX7_drawn 0 = .ok (.iload_n 1, 1) := by decide +kernel
theorem dX7_drawn_1 : decode cX7_drawn 1 = .ok (.iconst 1, 1) := by decide +kernel
theorem dX7_drawn_2 : decode cX7_drawn 2 = .ok (.if_icmp .lt 9, 3) := by decide +kernel
theorem dX7_drawn_5 : decode cX7_drawn 5 = .ok (.iload_n 1, 1) := by decide +kernel
theorem dX7_drawn_6 : decode cX7_drawn 6 = .ok (.bipush 20, 2) := by decide +kernel
theorem dX7_drawn_8 : decode cX7_drawn 8 = .ok (.if_icmp .le 6, 3) := by decide +kernel
theorem dX7_drawn_11 : decode cX7_drawn 11 = .ok (.bipush (-2), 2) := by decide +kernel
theorem dX7_drawn_13 : decode cX7_drawn 13 = .ok (.ireturn, 1) := by decide +kernel
theorem dX7_drawn_14 : decode cX7_drawn 14 = .ok (.aload_n 0, 1) := by decide +kernel
theorem dX7_drawn_15 : decode cX7_drawn 15 = .ok (.getfield 23, 3) := by decide +kernel
theorem dX7_drawn_18 : decode cX7_drawn 18 = .ok (.aload_n 0, 1) := by decide +kernel
theorem dX7_drawn_19 : decode cX7_drawn 19 = .ok (.getfield 19, 3) := by decide +kernel
theorem dX7_drawn_22 : decode cX7_drawn 22 = .ok (.invokevirtual 84, 3) := by decide +kernel
theorem dX7_drawn_25 : decode cX7_drawn 25 = .ok (.iconst 0, 1) := by decide +kernel
theorem dX7_drawn_26 : decode cX7_drawn 26 = .ok (.istore_n 2, 1) := by decide +kernel
theorem dX7_drawn_27 : decode cX7_drawn 27 = .ok (.iload_n 2, 1) := by decide +kernel
theorem dX7_drawn_28 : decode cX7_drawn 28 = .ok (.iload_n 1, 1) := by decide +kernel
theorem dX7_drawn_29 : decode cX7_drawn 29 = .ok (.if_icmp .ge 68, 3) := by decide +kernel
theorem dX7_drawn_32 : decode cX7_drawn 32 = .ok (.aload_n 0, 1) := by decide +kernel
theorem dX7_drawn_33 : decode cX7_drawn 33 = .ok (.aload_n 0, 1) := by decide +kernel
theorem dX7_drawn_34 : decode cX7_drawn 34 = .ok (.getfield 58, 3) := by decide +kernel
theorem dX7_drawn_37 : decode cX7_drawn 37 = .ok (.ldc2_w 249, 3) := by decide +kernel
theorem dX7_drawn_40 : decode cX7_drawn 40 = .ok (.lmul, 1) := by decide +kernel
theorem dX7_drawn_41 : decode cX7_drawn 41 = .ok (.ldc2_w 251, 3) := by decide +kernel
theorem dX7_drawn_44 : decode cX7_drawn 44 = .ok (.ladd, 1) := by decide +kernel
theorem dX7_drawn_45 : decode cX7_drawn 45 = .ok (.putfield 58, 3) := by decide +kernel
theorem dX7_drawn_48 : decode cX7_drawn 48 = .ok (.aload_n 0, 1) := by decide +kernel
theorem dX7_drawn_49 : decode cX7_drawn 49 = .ok (.getfield 58, 3) := by decide +kernel
theorem dX7_drawn_52 : decode cX7_drawn 52 = .ok (.bipush 33, 2) := by decide +kernel
theorem dX7_drawn_54 : decode cX7_drawn 54 = .ok (.lushr, 1) := by decide +kernel
theorem dX7_drawn_55 : decode cX7_drawn 55 = .ok (.l2i, 1) := by decide +kernel
theorem dX7_drawn_56 : decode cX7_drawn 56 = .ok (.istore_n 3, 1) := by decide +kernel
theorem dX7_drawn_57 : decode cX7_drawn 57 = .ok (.aload_n 0, 1) := by decide +kernel
theorem dX7_drawn_58 : decode cX7_drawn 58 = .ok (.getfield 23, 3) := by decide +kernel
theorem dX7_drawn_61 : decode cX7_drawn 61 = .ok (.getfield 91, 3) := by decide +kernel
theorem dX7_drawn_64 : decode cX7_drawn 64 = .ok (.ifCond .le 27, 3) := by decide +kernel
theorem dX7_drawn_67 : decode cX7_drawn 67 = .ok (.aload_n 0, 1) := by decide +kernel
theorem dX7_drawn_68 : decode cX7_drawn 68 = .ok (.getfield 23, 3) := by decide +kernel
theorem dX7_drawn_71 : decode cX7_drawn 71 = .ok (.iload_n 3, 1) := by decide +kernel
theorem dX7_drawn_72 : decode cX7_drawn 72 = .ok (.aload_n 0, 1) := by decide +kernel
theorem dX7_drawn_73 : decode cX7_drawn 73 = .ok (.getfield 23, 3) := by decide +kernel
theorem dX7_drawn_76 : decode cX7_drawn 76 = .ok (.getfield 91, 3) := by decide +kernel
theorem dX7_drawn_79 : decode cX7_drawn 79 = .ok (.irem, 1) := by decide +kernel
theorem dX7_drawn_80 : decode cX7_drawn 80 = .ok (.iload_n 3, 1) := by decide +kernel
theorem dX7_drawn_81 : decode cX7_drawn 81 = .ok (.bipush 8, 2) := by decide +kernel
theorem dX7_drawn_83 : decode cX7_drawn 83 = .ok (.idiv, 1) := by decide +kernel
theorem dX7_drawn_84 : decode cX7_drawn 84 = .ok (.bipush 32, 2) := by decide +kernel
theorem dX7_drawn_86 : decode cX7_drawn 86 = .ok (.irem, 1) := by decide +kernel
theorem dX7_drawn_87 : decode cX7_drawn 87 = .ok (.invokevirtual 164, 3) := by decide +kernel
theorem dX7_drawn_90 : decode cX7_drawn 90 = .ok (.pop, 1) := by decide +kernel
theorem dX7_drawn_91 : decode cX7_drawn 91 = .ok (.iinc 2 1, 3) := by decide +kernel
theorem dX7_drawn_94 : decode cX7_drawn 94 = .ok (.goto (-67), 3) := by decide +kernel
theorem dX7_drawn_97 : decode cX7_drawn 97 = .ok (.aload_n 0, 1) := by decide +kernel
theorem dX7_drawn_98 : decode cX7_drawn 98 = .ok (.getfield 23, 3) := by decide +kernel
theorem dX7_drawn_101 : decode cX7_drawn 101 = .ok (.invokevirtual 213, 3) := by decide +kernel
theorem dX7_drawn_104 : decode cX7_drawn 104 = .ok (.aload_n 0, 1) := by decide +kernel
theorem dX7_drawn_105 : decode cX7_drawn 105 = .ok (.getfield 19, 3) := by decide +kernel
theorem dX7_drawn_108 : decode cX7_drawn 108 = .ok (.invokevirtual 213, 3) := by decide +kernel
theorem dX7_drawn_111 : decode cX7_drawn 111 = .ok (.isub, 1) := by decide +kernel
theorem dX7_drawn_112 : decode cX7_drawn 112 = .ok (.ireturn, 1) := by decide +kernel
theorem dX7_keep_0 : decode cX7_keep 0 = .ok (.aload_n 0, 1) := by decide +kernel
theorem dX7_keep_1 : decode cX7_keep 1 = .ok (.getfield 33, 3) := by decide +kernel
theorem dX7_keep_4 : decode cX7_keep 4 = .ok (.iload_n 1, 1) := by decide +kernel
theorem dX7_keep_5 : decode cX7_keep 5 = .ok (.invokestatic 253, 3) := by decide +kernel
theorem dX7_keep_8 : decode cX7_keep 8 = .ok (.astore_n 2, 1) := by decide +kernel
theorem dX7_keep_9 : decode cX7_keep 9 = .ok (.aload_n 2, 1) := by decide +kernel
theorem dX7_keep_10 : decode cX7_keep 10 = .ok (.ifnull 16, 3) := by decide +kernel
theorem dX7_keep_13 : decode cX7_keep 13 = .ok (.iload_n 1, 1) := by decide +kernel
theorem dX7_keep_14 : decode cX7_keep 14 = .ok (.ifCond .lt 12, 3) := by decide +kernel
theorem dX7_keep_17 : decode cX7_keep 17 = .ok (.iload_n 1, 1) := by decide +kernel
theorem dX7_keep_18 : decode cX7_keep 18 = .ok (.aload_n 0, 1) := by decide +kernel
theorem dX7_keep_19 : decode cX7_keep 19 = .ok (.getfield 37, 3) := by decide +kernel
theorem dX7_keep_22 : decode cX7_keep 22 = .ok (.arraylength, 1) := by decide +kernel
theorem dX7_keep_23 : decode cX7_keep 23 = .ok (.if_icmp .lt 5, 3) := by decide +kernel
theorem dX7_keep_26 : decode cX7_keep 26 = .ok (.iconst (-1), 1) := by decide +kernel
theorem dX7_keep_27 : decode cX7_keep 27 = .ok (.ireturn, 1) := by decide +kernel
theorem dX7_keep_28 : decode cX7_keep 28 = .ok (.aload_n 2, 1) := by decide +kernel
theorem dX7_keep_29 : decode cX7_keep 29 = .ok (.aload_n 0, 1) := by decide +kernel
theorem dX7_keep_30 : decode cX7_keep 30 = .ok (.getfield 19, 3) := by decide +kernel
theorem dX7_keep_33 : decode cX7_keep 33 = .ok (.invokevirtual 84, 3) := by decide +kernel
theorem dX7_keep_36 : decode cX7_keep 36 = .ok (.aload_n 0, 1) := by decide +kernel
theorem dX7_keep_37 : decode cX7_keep 37 = .ok (.getfield 37, 3) := by decide +kernel
theorem dX7_keep_40 : decode cX7_keep 40 = .ok (.iload_n 1, 1) := by decide +kernel
theorem dX7_keep_41 : decode cX7_keep 41 = .ok (.iconst 1, 1) := by decide +kernel
theorem dX7_keep_42 : decode cX7_keep 42 = .ok (.bastore, 1) := by decide +kernel
theorem dX7_keep_43 : decode cX7_keep 43 = .ok (.aload_n 0, 1) := by decide +kernel
theorem dX7_keep_44 : decode cX7_keep 44 = .ok (.getfield 19, 3) := by decide +kernel
theorem dX7_keep_47 : decode cX7_keep 47 = .ok (.getfield 91, 3) := by decide +kernel
theorem dX7_keep_50 : decode cX7_keep 50 = .ok (.ireturn, 1) := by decide +kernel
theorem dX7_again_0 : decode cX7_again 0 = .ok (.aload_n 0, 1) := by decide +kernel
theorem dX7_again_1 : decode cX7_again 1 = .ok (.getfield 33, 3) := by decide +kernel
theorem dX7_again_4 : decode cX7_again 4 = .ok (.iload_n 1, 1) := by decide +kernel
theorem dX7_again_5 : decode cX7_again 5 = .ok (.invokestatic 253, 3) := by decide +kernel
theorem dX7_again_8 : decode cX7_again 8 = .ok (.astore_n 2, 1) := by decide +kernel
theorem dX7_again_9 : decode cX7_again 9 = .ok (.aload_n 2, 1) := by decide +kernel
theorem dX7_again_10 : decode cX7_again 10 = .ok (.ifnull 16, 3) := by decide +kernel
theorem dX7_again_13 : decode cX7_again 13 = .ok (.iload_n 1, 1) := by decide +kernel
theorem dX7_again_14 : decode cX7_again 14 = .ok (.ifCond .lt 12, 3) := by decide +kernel
theorem dX7_again_17 : decode cX7_again 17 = .ok (.iload_n 1, 1) := by decide +kernel
theorem dX7_again_18 : decode cX7_again 18 = .ok (.aload_n 0, 1) := by decide +kernel
theorem dX7_again_19 : decode cX7_again 19 = .ok (.getfield 37, 3) := by decide +kernel
theorem dX7_again_22 : decode cX7_again 22 = .ok (.arraylength, 1) := by decide +kernel
theorem dX7_again_23 : decode cX7_again 23 = .ok (.if_icmp .lt 5, 3) := by decide +kernel
theorem dX7_again_26 : decode cX7_again 26 = .ok (.iconst (-1), 1) := by decide +kernel
theorem dX7_again_27 : decode cX7_again 27 = .ok (.ireturn, 1) := by decide +kernel
theorem dX7_again_28 : decode cX7_again 28 = .ok (.aload_n 0, 1) := by decide +kernel
theorem dX7_again_29 : decode cX7_again 29 = .ok (.getfield 37, 3) := by decide +kernel
theorem dX7_again_32 : decode cX7_again 32 = .ok (.iload_n 1, 1) := by decide +kernel
theorem dX7_again_33 : decode cX7_again 33 = .ok (.baload, 1) := by decide +kernel
theorem dX7_again_34 : decode cX7_again 34 = .ok (.ifCond .ne 6, 3) := by decide +kernel
theorem dX7_again_37 : decode cX7_again 37 = .ok (.bipush (-3), 2) := by decide +kernel
theorem dX7_again_39 : decode cX7_again 39 = .ok (.ireturn, 1) := by decide +kernel
theorem dX7_again_40 : decode cX7_again 40 = .ok (.aload_n 0, 1) := by decide +kernel
theorem dX7_again_41 : decode cX7_again 41 = .ok (.getfield 19, 3) := by decide +kernel
theorem dX7_again_44 : decode cX7_again 44 = .ok (.aload_n 2, 1) := by decide +kernel
theorem dX7_again_45 : decode cX7_again 45 = .ok (.invokevirtual 84, 3) := by decide +kernel
theorem dX7_again_48 : decode cX7_again 48 = .ok (.aload_n 0, 1) := by decide +kernel
theorem dX7_again_49 : decode cX7_again 49 = .ok (.getfield 29, 3) := by decide +kernel
theorem dX7_again_52 : decode cX7_again 52 = .ok (.invokevirtual 88, 3) := by decide +kernel
theorem dX7_again_55 : decode cX7_again 55 = .ok (.aload_n 0, 1) := by decide +kernel
theorem dX7_again_56 : decode cX7_again 56 = .ok (.getfield 19, 3) := by decide +kernel
theorem dX7_again_59 : decode cX7_again 59 = .ok (.getfield 91, 3) := by decide +kernel
theorem dX7_again_62 : decode cX7_again 62 = .ok (.ireturn, 1) := by decide +kernel
theorem dX7_count_0 : decode cX7_count 0 = .ok (.iload_n 1, 1) := by decide +kernel
theorem dX7_count_1 : decode cX7_count 1 = .ok (.tableswitch 183 0 12 #[67, 75, 83, 94, 105, 116, 127, 135, 143, 151, 159, 167, 175], 67) := by decide +kernel
theorem dX7_count_68 : decode cX7_count 68 = .ok (.aload_n 0, 1) := by decide +kernel
theorem dX7_count_69 : decode cX7_count 69 = .ok (.getfield 10, 3) := by decide +kernel
theorem dX7_count_72 : decode cX7_count 72 = .ok (.getfield 73, 3) := by decide +kernel
theorem dX7_count_75 : decode cX7_count 75 = .ok (.ireturn, 1) := by decide +kernel
theorem dX7_count_76 : decode cX7_count 76 = .ok (.aload_n 0, 1) := by decide +kernel
theorem dX7_count_77 : decode cX7_count 77 = .ok (.getfield 19, 3) := by decide +kernel
theorem dX7_count_80 : decode cX7_count 80 = .ok (.getfield 91, 3) := by decide +kernel
theorem dX7_count_83 : decode cX7_count 83 = .ok (.ireturn, 1) := by decide +kernel
theorem dX7_count_84 : decode cX7_count 84 = .ok (.aload_n 0, 1) := by decide +kernel
theorem dX7_count_85 : decode cX7_count 85 = .ok (.getfield 19, 3) := by decide +kernel
theorem dX7_count_88 : decode cX7_count 88 = .ok (.getfield 131, 3) := by decide +kernel
theorem dX7_count_91 : decode cX7_count 91 = .ok (.getfield 200, 3) := by decide +kernel
theorem dX7_count_94 : decode cX7_count 94 = .ok (.ireturn, 1) := by decide +kernel
theorem dX7_count_95 : decode cX7_count 95 = .ok (.aload_n 0, 1) := by decide +kernel
theorem dX7_count_96 : decode cX7_count 96 = .ok (.getfield 19, 3) := by decide +kernel
theorem dX7_count_99 : decode cX7_count 99 = .ok (.getfield 131, 3) := by decide +kernel
theorem dX7_count_102 : decode cX7_count 102 = .ok (.getfield 135, 3) := by decide +kernel
theorem dX7_count_105 : decode cX7_count 105 = .ok (.ireturn, 1) := by decide +kernel
theorem dX7_count_106 : decode cX7_count 106 = .ok (.aload_n 0, 1) := by decide +kernel
theorem dX7_count_107 : decode cX7_count 107 = .ok (.getfield 19, 3) := by decide +kernel
theorem dX7_count_110 : decode cX7_count 110 = .ok (.getfield 131, 3) := by decide +kernel
theorem dX7_count_113 : decode cX7_count 113 = .ok (.getfield 150, 3) := by decide +kernel
theorem dX7_count_116 : decode cX7_count 116 = .ok (.ireturn, 1) := by decide +kernel
theorem dX7_count_117 : decode cX7_count 117 = .ok (.aload_n 0, 1) := by decide +kernel
theorem dX7_count_118 : decode cX7_count 118 = .ok (.getfield 19, 3) := by decide +kernel
theorem dX7_count_121 : decode cX7_count 121 = .ok (.getfield 131, 3) := by decide +kernel
theorem dX7_count_124 : decode cX7_count 124 = .ok (.getfield 182, 3) := by decide +kernel
theorem dX7_count_127 : decode cX7_count 127 = .ok (.ireturn, 1) := by decide +kernel
theorem dX7_count_128 : decode cX7_count 128 = .ok (.aload_n 0, 1) := by decide +kernel
theorem dX7_count_129 : decode cX7_count 129 = .ok (.getfield 19, 3) := by decide +kernel
theorem dX7_count_132 : decode cX7_count 132 = .ok (.getfield 257, 3) := by decide +kernel
theorem dX7_count_135 : decode cX7_count 135 = .ok (.ireturn, 1) := by decide +kernel
theorem dX7_count_136 : decode cX7_count 136 = .ok (.aload_n 0, 1) := by decide +kernel
theorem dX7_count_137 : decode cX7_count 137 = .ok (.getfield 19, 3) := by decide +kernel
theorem dX7_count_140 : decode cX7_count 140 = .ok (.getfield 260, 3) := by decide +kernel
theorem dX7_count_143 : decode cX7_count 143 = .ok (.ireturn, 1) := by decide +kernel
theorem dX7_count_144 : decode cX7_count 144 = .ok (.aload_n 0, 1) := by decide +kernel
theorem dX7_count_145 : decode cX7_count 145 = .ok (.getfield 19, 3) := by decide +kernel
theorem dX7_count_148 : decode cX7_count 148 = .ok (.getfield 263, 3) := by decide +kernel
theorem dX7_count_151 : decode cX7_count 151 = .ok (.ireturn, 1) := by decide +kernel
theorem dX7_count_152 : decode cX7_count 152 = .ok (.aload_n 0, 1) := by decide +kernel
theorem dX7_count_153 : decode cX7_count 153 = .ok (.getfield 19, 3) := by decide +kernel
theorem dX7_count_156 : decode cX7_count 156 = .ok (.getfield 266, 3) := by decide +kernel
theorem dX7_count_159 : decode cX7_count 159 = .ok (.ireturn, 1) := by decide +kernel
theorem dX7_count_160 : decode cX7_count 160 = .ok (.aload_n 0, 1) := by decide +kernel
theorem dX7_count_161 : decode cX7_count 161 = .ok (.getfield 19, 3) := by decide +kernel
theorem dX7_count_164 : decode cX7_count 164 = .ok (.invokevirtual 269, 3) := by decide +kernel
theorem dX7_count_167 : decode cX7_count 167 = .ok (.ireturn, 1) := by decide +kernel
theorem dX7_count_168 : decode cX7_count 168 = .ok (.aload_n 0, 1) := by decide +kernel
theorem dX7_count_169 : decode cX7_count 169 = .ok (.getfield 29, 3) := by decide +kernel
theorem dX7_count_172 : decode cX7_count 172 = .ok (.getfield 192, 3) := by decide +kernel
theorem dX7_count_175 : decode cX7_count 175 = .ok (.ireturn, 1) := by decide +kernel
theorem dX7_count_176 : decode cX7_count 176 = .ok (.aload_n 0, 1) := by decide +kernel
theorem dX7_count_177 : decode cX7_count 177 = .ok (.getfield 44, 3) := by decide +kernel
theorem dX7_count_180 : decode cX7_count 180 = .ok (.getfield 230, 3) := by decide +kernel
theorem dX7_count_183 : decode cX7_count 183 = .ok (.ireturn, 1) := by decide +kernel
theorem dX7_count_184 : decode cX7_count 184 = .ok (.bipush (-2), 2) := by decide +kernel
theorem dX7_count_186 : decode cX7_count 186 = .ok (.ireturn, 1) := by decide +kernel
theorem dX7_isPage_0 : decode cX7_isPage 0 = .ok (.iload_n 0, 1) := by decide +kernel
theorem dX7_isPage_1 : decode cX7_isPage 1 = .ok (.ifCond .lt 13, 3) := by decide +kernel
theorem dX7_isPage_4 : decode cX7_isPage 4 = .ok (.iload_n 0, 1) := by decide +kernel
theorem dX7_isPage_5 : decode cX7_isPage 5 = .ok (.bipush 32, 2) := by decide +kernel
theorem dX7_isPage_7 : decode cX7_isPage 7 = .ok (.if_icmp .ge 7, 3) := by decide +kernel
theorem dX7_isPage_10 : decode cX7_isPage 10 = .ok (.iconst 1, 1) := by decide +kernel
theorem dX7_isPage_11 : decode cX7_isPage 11 = .ok (.goto 4, 3) := by decide +kernel
theorem dX7_isPage_14 : decode cX7_isPage 14 = .ok (.iconst 0, 1) := by decide +kernel
theorem dX7_isPage_15 : decode cX7_isPage 15 = .ok (.ireturn, 1) := by decide +kernel
theorem dX7_netAt_0 : decode cX7_netAt 0 = .ok (.iload_n 1, 1) := by decide +kernel
theorem dX7_netAt_1 : decode cX7_netAt 1 = .ok (.ifCond .lt 15, 3) := by decide +kernel
theorem dX7_netAt_4 : decode cX7_netAt 4 = .ok (.iload_n 1, 1) := by decide +kernel
theorem dX7_netAt_5 : decode cX7_netAt 5 = .ok (.aload_n 0, 1) := by decide +kernel
theorem dX7_netAt_6 : decode cX7_netAt 6 = .ok (.arraylength, 1) := by decide +kernel
theorem dX7_netAt_7 : decode cX7_netAt 7 = .ok (.if_icmp .ge 9, 3) := by decide +kernel
theorem dX7_netAt_10 : decode cX7_netAt 10 = .ok (.aload_n 0, 1) := by decide +kernel
theorem dX7_netAt_11 : decode cX7_netAt 11 = .ok (.iload_n 1, 1) := by decide +kernel
theorem dX7_netAt_12 : decode cX7_netAt 12 = .ok (.aaload, 1) := by decide +kernel
theorem dX7_netAt_13 : decode cX7_netAt 13 = .ok (.goto 4, 3) := by decide +kernel
theorem dX7_netAt_16 : decode cX7_netAt 16 = .ok (.aconst_null, 1) := by decide +kernel
theorem dX7_netAt_17 : decode cX7_netAt 17 = .ok (.areturn, 1) := by decide +kernel
theorem dX7_copyRow_0 : decode cX7_copyRow 0 = .ok (.iconst 0, 1) := by decide +kernel
theorem dX7_copyRow_1 : decode cX7_copyRow 1 = .ok (.istore_n 2, 1) := by decide +kernel
theorem dX7_copyRow_2 : decode cX7_copyRow 2 = .ok (.iload_n 2, 1) := by decide +kernel
theorem dX7_copyRow_3 : decode cX7_copyRow 3 = .ok (.aload_n 0, 1) := by decide +kernel
theorem dX7_copyRow_4 : decode cX7_copyRow 4 = .ok (.arraylength, 1) := by decide +kernel
theorem dX7_copyRow_5 : decode cX7_copyRow 5 = .ok (.if_icmp .ge 21, 3) := by decide +kernel
theorem dX7_copyRow_8 : decode cX7_copyRow 8 = .ok (.iload_n 2, 1) := by decide +kernel
theorem dX7_copyRow_9 : decode cX7_copyRow 9 = .ok (.aload_n 1, 1) := by decide +kernel
theorem dX7_copyRow_10 : decode cX7_copyRow 10 = .ok (.arraylength, 1) := by decide +kernel
theorem dX7_copyRow_11 : decode cX7_copyRow 11 = .ok (.if_icmp .ge 15, 3) := by decide +kernel
theorem dX7_copyRow_14 : decode cX7_copyRow 14 = .ok (.aload_n 1, 1) := by decide +kernel
theorem dX7_copyRow_15 : decode cX7_copyRow 15 = .ok (.iload_n 2, 1) := by decide +kernel
theorem dX7_copyRow_16 : decode cX7_copyRow 16 = .ok (.aload_n 0, 1) := by decide +kernel
theorem dX7_copyRow_17 : decode cX7_copyRow 17 = .ok (.iload_n 2, 1) := by decide +kernel
theorem dX7_copyRow_18 : decode cX7_copyRow 18 = .ok (.iaload, 1) := by decide +kernel
theorem dX7_copyRow_19 : decode cX7_copyRow 19 = .ok (.iastore, 1) := by decide +kernel
theorem dX7_copyRow_20 : decode cX7_copyRow 20 = .ok (.iinc 2 1, 3) := by decide +kernel
theorem dX7_copyRow_23 : decode cX7_copyRow 23 = .ok (.goto (-21), 3) := by decide +kernel
theorem dX7_copyRow_26 : decode cX7_copyRow 26 = .ok (.return_, 1) := by decide +kernel
theorem dX7_powerOfTen_0 : decode cX7_powerOfTen 0 = .ok (.lconst 1, 1) := by decide +kernel
theorem dX7_powerOfTen_1 : decode cX7_powerOfTen 1 = .ok (.lstore_n 1, 1) := by decide +kernel
theorem dX7_powerOfTen_2 : decode cX7_powerOfTen 2 = .ok (.iconst 0, 1) := by decide +kernel
theorem dX7_powerOfTen_3 : decode cX7_powerOfTen 3 = .ok (.istore_n 3, 1) := by decide +kernel
theorem dX7_powerOfTen_4 : decode cX7_powerOfTen 4 = .ok (.iload_n 3, 1) := by decide +kernel
theorem dX7_powerOfTen_5 : decode cX7_powerOfTen 5 = .ok (.iload_n 0, 1) := by decide +kernel
theorem dX7_powerOfTen_6 : decode cX7_powerOfTen 6 = .ok (.if_icmp .ge 21, 3) := by decide +kernel
theorem dX7_powerOfTen_9 : decode cX7_powerOfTen 9 = .ok (.iload_n 3, 1) := by decide +kernel
theorem dX7_powerOfTen_10 : decode cX7_powerOfTen 10 = .ok (.bipush 18, 2) := by decide +kernel
theorem dX7_powerOfTen_12 : decode cX7_powerOfTen 12 = .ok (.if_icmp .ge 15, 3) := by decide +kernel
theorem dX7_powerOfTen_15 : decode cX7_powerOfTen 15 = .ok (.lload_n 1, 1) := by decide +kernel
theorem dX7_powerOfTen_16 : decode cX7_powerOfTen 16 = .ok (.ldc2_w 272, 3) := by decide +kernel
theorem dX7_powerOfTen_19 : decode cX7_powerOfTen 19 = .ok (.lmul, 1) := by decide +kernel
theorem dX7_powerOfTen_20 : decode cX7_powerOfTen 20 = .ok (.lstore_n 1, 1) := by decide +kernel
theorem dX7_powerOfTen_21 : decode cX7_powerOfTen 21 = .ok (.iinc 3 1, 3) := by decide +kernel
theorem dX7_powerOfTen_24 : decode cX7_powerOfTen 24 = .ok (.goto (-20), 3) := by decide +kernel
theorem dX7_powerOfTen_27 : decode cX7_powerOfTen 27 = .ok (.lload_n 1, 1) := by decide +kernel
theorem dX7_powerOfTen_28 : decode cX7_powerOfTen 28 = .ok (.lreturn, 1) := by decide +kernel
theorem dX7_floatBits_0 : decode cX7_floatBits 0 = .ok (.fload_n 0, 1) := by decide +kernel
theorem dX7_floatBits_1 : decode cX7_floatBits 1 = .ok (.fconst 0, 1) := by decide +kernel
theorem dX7_floatBits_2 : decode cX7_floatBits 2 = .ok (.fcmp .g, 1) := by decide +kernel
theorem dX7_floatBits_3 : decode cX7_floatBits 3 = .ok (.ifCond .gt 5, 3) := by decide +kernel
theorem dX7_floatBits_6 : decode cX7_floatBits 6 = .ok (.iconst 0, 1) := by decide +kernel
theorem dX7_floatBits_7 : decode cX7_floatBits 7 = .ok (.ireturn, 1) := by decide +kernel
theorem dX7_floatBits_8 : decode cX7_floatBits 8 = .ok (.fload_n 0, 1) := by decide +kernel
theorem dX7_floatBits_9 : decode cX7_floatBits 9 = .ok (.fstore_n 1, 1) := by decide +kernel
theorem dX7_floatBits_10 : decode cX7_floatBits 10 = .ok (.bipush 127, 2) := by decide +kernel
theorem dX7_floatBits_12 : decode cX7_floatBits 12 = .ok (.istore_n 2, 1) := by decide +kernel
theorem dX7_floatBits_13 : decode cX7_floatBits 13 = .ok (.fload_n 1, 1) := by decide +kernel
theorem dX7_floatBits_14 : decode cX7_floatBits 14 = .ok (.fconst 1, 1) := by decide +kernel
theorem dX7_floatBits_15 : decode cX7_floatBits 15 = .ok (.fcmp .g, 1) := by decide +kernel
theorem dX7_floatBits_16 : decode cX7_floatBits 16 = .ok (.ifCond .ge 18, 3) := by decide +kernel
theorem dX7_floatBits_19 : decode cX7_floatBits 19 = .ok (.iload_n 2, 1) := by decide +kernel
theorem dX7_floatBits_20 : decode cX7_floatBits 20 = .ok (.iconst 1, 1) := by decide +kernel
theorem dX7_floatBits_21 : decode cX7_floatBits 21 = .ok (.if_icmp .le 13, 3) := by decide +kernel
theorem dX7_floatBits_24 : decode cX7_floatBits 24 = .ok (.fload_n 1, 1) := by decide +kernel
theorem dX7_floatBits_25 : decode cX7_floatBits 25 = .ok (.fconst 2, 1) := by decide +kernel
theorem dX7_floatBits_26 : decode cX7_floatBits 26 = .ok (.fmul, 1) := by decide +kernel
theorem dX7_floatBits_27 : decode cX7_floatBits 27 = .ok (.fstore_n 1, 1) := by decide +kernel
theorem dX7_floatBits_28 : decode cX7_floatBits 28 = .ok (.iinc 2 (-1), 3) := by decide +kernel
theorem dX7_floatBits_31 : decode cX7_floatBits 31 = .ok (.goto (-18), 3) := by decide +kernel
theorem dX7_floatBits_34 : decode cX7_floatBits 34 = .ok (.iload_n 2, 1) := by decide +kernel
theorem dX7_floatBits_35 : decode cX7_floatBits 35 = .ok (.bipush 23, 2) := by decide +kernel
theorem dX7_floatBits_37 : decode cX7_floatBits 37 = .ok (.ishl, 1) := by decide +kernel
theorem dX7_floatBits_38 : decode cX7_floatBits 38 = .ok (.fload_n 1, 1) := by decide +kernel
theorem dX7_floatBits_39 : decode cX7_floatBits 39 = .ok (.fconst 1, 1) := by decide +kernel
theorem dX7_floatBits_40 : decode cX7_floatBits 40 = .ok (.fsub, 1) := by decide +kernel
theorem dX7_floatBits_41 : decode cX7_floatBits 41 = .ok (.ldc_w 274, 3) := by decide +kernel
theorem dX7_floatBits_44 : decode cX7_floatBits 44 = .ok (.fmul, 1) := by decide +kernel
theorem dX7_floatBits_45 : decode cX7_floatBits 45 = .ok (.f2i, 1) := by decide +kernel
theorem dX7_floatBits_46 : decode cX7_floatBits 46 = .ok (.iadd, 1) := by decide +kernel
theorem dX7_floatBits_47 : decode cX7_floatBits 47 = .ok (.ireturn, 1) := by decide +kernel
theorem dX7_ofFraction_0 : decode cX7_ofFraction 0 = .ok (.iload_n 0, 1) := by decide +kernel
theorem dX7_ofFraction_1 : decode cX7_ofFraction 1 = .ok (.iload_n 1, 1) := by decide +kernel
theorem dX7_ofFraction_2 : decode cX7_ofFraction 2 = .ok (.invokestatic 275, 3) := by decide +kernel
theorem dX7_ofFraction_5 : decode cX7_ofFraction 5 = .ok (.istore_n 3, 1) := by decide +kernel
theorem dX7_ofFraction_6 : decode cX7_ofFraction 6 = .ok (.iload_n 3, 1) := by decide +kernel
theorem dX7_ofFraction_7 : decode cX7_ofFraction 7 = .ok (.ifCond .ne 5, 3) := by decide +kernel
theorem dX7_ofFraction_10 : decode cX7_ofFraction 10 = .ok (.iconst 0, 1) := by decide +kernel
theorem dX7_ofFraction_11 : decode cX7_ofFraction 11 = .ok (.ireturn, 1) := by decide +kernel
theorem dX7_ofFraction_12 : decode cX7_ofFraction 12 = .ok (.iload_n 2, 1) := by decide +kernel
theorem dX7_ofFraction_13 : decode cX7_ofFraction 13 = .ok (.ifCond .eq 7, 3) := by decide +kernel
theorem dX7_ofFraction_16 : decode cX7_ofFraction 16 = .ok (.iload_n 0, 1) := by decide +kernel
theorem dX7_ofFraction_17 : decode cX7_ofFraction 17 = .ok (.goto 4, 3) := by decide +kernel
theorem dX7_ofFraction_20 : decode cX7_ofFraction 20 = .ok (.iload_n 1, 1) := by decide +kernel
theorem dX7_ofFraction_21 : decode cX7_ofFraction 21 = .ok (.iload_n 3, 1) := by decide +kernel
theorem dX7_ofFraction_22 : decode cX7_ofFraction 22 = .ok (.idiv, 1) := by decide +kernel
theorem dX7_ofFraction_23 : decode cX7_ofFraction 23 = .ok (.ireturn, 1) := by decide +kernel
theorem dX7_commonDivisor_0 : decode cX7_commonDivisor 0 = .ok (.iload_n 0, 1) := by decide +kernel
theorem dX7_commonDivisor_1 : decode cX7_commonDivisor 1 = .ok (.istore_n 2, 1) := by decide +kernel
theorem dX7_commonDivisor_2 : decode cX7_commonDivisor 2 = .ok (.iload_n 1, 1) := by decide +kernel
theorem dX7_commonDivisor_3 : decode cX7_commonDivisor 3 = .ok (.istore_n 3, 1) := by decide +kernel
theorem dX7_commonDivisor_4 : decode cX7_commonDivisor 4 = .ok (.iconst 0, 1) := by decide +kernel
theorem dX7_commonDivisor_5 : decode cX7_commonDivisor 5 = .ok (.istore 4, 2) := by decide +kernel
theorem dX7_commonDivisor_7 : decode cX7_commonDivisor 7 = .ok (.iload 4, 2) := by decide +kernel
theorem dX7_commonDivisor_9 : decode cX7_commonDivisor 9 = .ok (.bipush 100, 2) := by decide +kernel
theorem dX7_commonDivisor_11 : decode cX7_commonDivisor 11 = .ok (.if_icmp .ge 23, 3) := by decide +kernel
theorem dX7_commonDivisor_14 : decode cX7_commonDivisor 14 = .ok (.iload_n 3, 1) := by decide +kernel
theorem dX7_commonDivisor_15 : decode cX7_commonDivisor 15 = .ok (.ifCond .eq 19, 3) := by decide +kernel
theorem dX7_commonDivisor_18 : decode cX7_commonDivisor 18 = .ok (.iload_n 2, 1) := by decide +kernel
theorem dX7_commonDivisor_19 : decode cX7_commonDivisor 19 = .ok (.iload_n 3, 1) := by decide +kernel
theorem dX7_commonDivisor_20 : decode cX7_commonDivisor 20 = .ok (.irem, 1) := by decide +kernel
theorem dX7_commonDivisor_21 : decode cX7_commonDivisor 21 = .ok (.istore 5, 2) := by decide +kernel
theorem dX7_commonDivisor_23 : decode cX7_commonDivisor 23 = .ok (.iload_n 3, 1) := by decide +kernel
theorem dX7_commonDivisor_24 : decode cX7_commonDivisor 24 = .ok (.istore_n 2, 1) := by decide +kernel
theorem dX7_commonDivisor_25 : decode cX7_commonDivisor 25 = .ok (.iload 5, 2) := by decide +kernel
theorem dX7_commonDivisor_27 : decode cX7_commonDivisor 27 = .ok (.istore_n 3, 1) := by decide +kernel
theorem dX7_commonDivisor_28 : decode cX7_commonDivisor 28 = .ok (.iinc 4 1, 3) := by decide +kernel
theorem dX7_commonDivisor_31 : decode cX7_commonDivisor 31 = .ok (.goto (-24), 3) := by decide +kernel
theorem dX7_commonDivisor_34 : decode cX7_commonDivisor 34 = .ok (.iload_n 2, 1) := by decide +kernel
theorem dX7_commonDivisor_35 : decode cX7_commonDivisor 35 = .ok (.ireturn, 1) := by decide +kernel
theorem dX7_wayWeight_0 : decode cX7_wayWeight 0 = .ok (.iconst 1, 1) := by decide +kernel
theorem dX7_wayWeight_1 : decode cX7_wayWeight 1 = .ok (.istore_n 3, 1) := by decide +kernel
theorem dX7_wayWeight_2 : decode cX7_wayWeight 2 = .ok (.iconst 0, 1) := by decide +kernel
theorem dX7_wayWeight_3 : decode cX7_wayWeight 3 = .ok (.istore 4, 2) := by decide +kernel
theorem dX7_wayWeight_5 : decode cX7_wayWeight 5 = .ok (.iload 4, 2) := by decide +kernel
theorem dX7_wayWeight_7 : decode cX7_wayWeight 7 = .ok (.aload_n 0, 1) := by decide +kernel
theorem dX7_wayWeight_8 : decode cX7_wayWeight 8 = .ok (.getfield 19, 3) := by decide +kernel
theorem dX7_wayWeight_11 : decode cX7_wayWeight 11 = .ok (.getfield 91, 3) := by decide +kernel
theorem dX7_wayWeight_14 : decode cX7_wayWeight 14 = .ok (.if_icmp .ge 30, 3) := by decide +kernel
theorem dX7_wayWeight_17 : decode cX7_wayWeight 17 = .ok (.iload_n 3, 1) := by decide +kernel
theorem dX7_wayWeight_18 : decode cX7_wayWeight 18 = .ok (.iload_n 1, 1) := by decide +kernel
theorem dX7_wayWeight_19 : decode cX7_wayWeight 19 = .ok (.iload 4, 2) := by decide +kernel
theorem dX7_wayWeight_21 : decode cX7_wayWeight 21 = .ok (.ishr, 1) := by decide +kernel
theorem dX7_wayWeight_22 : decode cX7_wayWeight 22 = .ok (.iconst 1, 1) := by decide +kernel
theorem dX7_wayWeight_23 : decode cX7_wayWeight 23 = .ok (.iand, 1) := by decide +kernel
theorem dX7_wayWeight_24 : decode cX7_wayWeight 24 = .ok (.iconst 1, 1) := by decide +kernel
theorem dX7_wayWeight_25 : decode cX7_wayWeight 25 = .ok (.if_icmp .ne 7, 3) := by decide +kernel
theorem dX7_wayWeight_28 : decode cX7_wayWeight 28 = .ok (.iload_n 2, 1) := by decide +kernel
theorem dX7_wayWeight_29 : decode cX7_wayWeight 29 = .ok (.goto 7, 3) := by decide +kernel
theorem dX7_wayWeight_32 : decode cX7_wayWeight 32 = .ok (.bipush 10, 2) := by decide +kernel
theorem dX7_wayWeight_34 : decode cX7_wayWeight 34 = .ok (.iload_n 2, 1) := by decide +kernel
theorem dX7_wayWeight_35 : decode cX7_wayWeight 35 = .ok (.isub, 1) := by decide +kernel
theorem dX7_wayWeight_36 : decode cX7_wayWeight 36 = .ok (.imul, 1) := by decide +kernel
theorem dX7_wayWeight_37 : decode cX7_wayWeight 37 = .ok (.istore_n 3, 1) := by decide +kernel
theorem dX7_wayWeight_38 : decode cX7_wayWeight 38 = .ok (.iinc 4 1, 3) := by decide +kernel
theorem dX7_wayWeight_41 : decode cX7_wayWeight 41 = .ok (.goto (-36), 3) := by decide +kernel
theorem dX7_wayWeight_44 : decode cX7_wayWeight 44 = .ok (.iload_n 3, 1) := by decide +kernel
theorem dX7_wayWeight_45 : decode cX7_wayWeight 45 = .ok (.ireturn, 1) := by decide +kernel
theorem dX7_findCheapest_0 : decode cX7_findCheapest 0 = .ok (.aload_n 0, 1) := by decide +kernel
theorem dX7_findCheapest_1 : decode cX7_findCheapest 1 = .ok (.getfield 51, 3) := by decide +kernel
theorem dX7_findCheapest_4 : decode cX7_findCheapest 4 = .ok (.iload_n 2, 1) := by decide +kernel
theorem dX7_findCheapest_5 : decode cX7_findCheapest 5 = .ok (.invokevirtual 278, 3) := by decide +kernel
theorem dX7_findCheapest_8 : decode cX7_findCheapest 8 = .ok (.iconst 0, 1) := by decide +kernel
theorem dX7_findCheapest_9 : decode cX7_findCheapest 9 = .ok (.istore_n 3, 1) := by decide +kernel
theorem dX7_findCheapest_10 : decode cX7_findCheapest 10 = .ok (.iconst 1, 1) := by decide +kernel
theorem dX7_findCheapest_11 : decode cX7_findCheapest 11 = .ok (.istore 4, 2) := by decide +kernel
theorem dX7_findCheapest_13 : decode cX7_findCheapest 13 = .ok (.iconst 0, 1) := by decide +kernel
theorem dX7_findCheapest_14 : decode cX7_findCheapest 14 = .ok (.istore 5, 2) := by decide +kernel
theorem dX7_findCheapest_16 : decode cX7_findCheapest 16 = .ok (.iload 5, 2) := by decide +kernel
theorem dX7_findCheapest_18 : decode cX7_findCheapest 18 = .ok (.bipush 120, 2) := by decide +kernel
theorem dX7_findCheapest_20 : decode cX7_findCheapest 20 = .ok (.if_icmp .ge 55, 3) := by decide +kernel
theorem dX7_findCheapest_23 : decode cX7_findCheapest 23 = .ok (.iload 4, 2) := by decide +kernel
theorem dX7_findCheapest_25 : decode cX7_findCheapest 25 = .ok (.ifCond .eq 50, 3) := by decide +kernel
theorem dX7_findCheapest_28 : decode cX7_findCheapest 28 = .ok (.aload_n 0, 1) := by decide +kernel
theorem dX7_findCheapest_29 : decode cX7_findCheapest 29 = .ok (.iload_n 1, 1) := by decide +kernel
theorem dX7_findCheapest_30 : decode cX7_findCheapest 30 = .ok (.invokevirtual 281, 3) := by decide +kernel
theorem dX7_findCheapest_33 : decode cX7_findCheapest 33 = .ok (.istore 6, 2) := by decide +kernel
theorem dX7_findCheapest_35 : decode cX7_findCheapest 35 = .ok (.iload 5, 2) := by decide +kernel
theorem dX7_findCheapest_37 : decode cX7_findCheapest 37 = .ok (.ifCond .eq 9, 3) := by decide +kernel
theorem dX7_findCheapest_40 : decode cX7_findCheapest 40 = .ok (.iload 6, 2) := by decide +kernel
theorem dX7_findCheapest_42 : decode cX7_findCheapest 42 = .ok (.iload_n 3, 1) := by decide +kernel
theorem dX7_findCheapest_43 : decode cX7_findCheapest 43 = .ok (.if_icmp .ge 17, 3) := by decide +kernel
theorem dX7_findCheapest_46 : decode cX7_findCheapest 46 = .ok (.iload 6, 2) := by decide +kernel
theorem dX7_findCheapest_48 : decode cX7_findCheapest 48 = .ok (.istore_n 3, 1) := by decide +kernel
theorem dX7_findCheapest_49 : decode cX7_findCheapest 49 = .ok (.aload_n 0, 1) := by decide +kernel
theorem dX7_findCheapest_50 : decode cX7_findCheapest 50 = .ok (.getfield 55, 3) := by decide +kernel
theorem dX7_findCheapest_53 : decode cX7_findCheapest 53 = .ok (.aload_n 0, 1) := by decide +kernel
theorem dX7_findCheapest_54 : decode cX7_findCheapest 54 = .ok (.getfield 51, 3) := by decide +kernel
theorem dX7_findCheapest_57 : decode cX7_findCheapest 57 = .ok (.invokevirtual 284, 3) := by decide +kernel
theorem dX7_findCheapest_60 : decode cX7_findCheapest 60 = .ok (.aload_n 0, 1) := by decide +kernel
theorem dX7_findCheapest_61 : decode cX7_findCheapest 61 = .ok (.getfield 51, 3) := by decide +kernel
theorem dX7_findCheapest_64 : decode cX7_findCheapest 64 = .ok (.invokevirtual 287, 3) := by decide +kernel
theorem dX7_findCheapest_67 : decode cX7_findCheapest 67 = .ok (.istore 4, 2) := by decide +kernel
theorem dX7_findCheapest_69 : decode cX7_findCheapest 69 = .ok (.iinc 5 1, 3) := by decide +kernel
theorem dX7_findCheapest_72 : decode cX7_findCheapest 72 = .ok (.goto (-56), 3) := by decide +kernel
theorem dX7_findCheapest_75 : decode cX7_findCheapest 75 = .ok (.iload_n 3, 1) := by decide +kernel
theorem dX7_findCheapest_76 : decode cX7_findCheapest 76 = .ok (.ireturn, 1) := by decide +kernel
theorem dX7_triedCost_0 : decode cX7_triedCost 0 = .ok (.aload_n 0, 1) := by decide +kernel
theorem dX7_triedCost_1 : decode cX7_triedCost 1 = .ok (.getfield 23, 3) := by decide +kernel
theorem dX7_triedCost_4 : decode cX7_triedCost 4 = .ok (.aload_n 0, 1) := by decide +kernel
theorem dX7_triedCost_5 : decode cX7_triedCost 5 = .ok (.getfield 19, 3) := by decide +kernel
theorem dX7_triedCost_8 : decode cX7_triedCost 8 = .ok (.invokevirtual 84, 3) := by decide +kernel
theorem dX7_triedCost_11 : decode cX7_triedCost 11 = .ok (.iconst 0, 1) := by decide +kernel
theorem dX7_triedCost_12 : decode cX7_triedCost 12 = .ok (.istore_n 2, 1) := by decide +kernel
theorem dX7_triedCost_13 : decode cX7_triedCost 13 = .ok (.iload_n 2, 1) := by decide +kernel
theorem dX7_triedCost_14 : decode cX7_triedCost 14 = .ok (.aload_n 0, 1) := by decide +kernel
theorem dX7_triedCost_15 : decode cX7_triedCost 15 = .ok (.getfield 51, 3) := by decide +kernel
theorem dX7_triedCost_18 : decode cX7_triedCost 18 = .ok (.getfield 291, 3) := by decide +kernel
theorem dX7_triedCost_21 : decode cX7_triedCost 21 = .ok (.if_icmp .ge 26, 3) := by decide +kernel
theorem dX7_triedCost_24 : decode cX7_triedCost 24 = .ok (.aload_n 0, 1) := by decide +kernel
theorem dX7_triedCost_25 : decode cX7_triedCost 25 = .ok (.getfield 23, 3) := by decide +kernel
theorem dX7_triedCost_28 : decode cX7_triedCost 28 = .ok (.iload_n 1, 1) := by decide +kernel
theorem dX7_triedCost_29 : decode cX7_triedCost 29 = .ok (.aload_n 0, 1) := by decide +kernel
theorem dX7_triedCost_30 : decode cX7_triedCost 30 = .ok (.getfield 51, 3) := by decide +kernel
theorem dX7_triedCost_33 : decode cX7_triedCost 33 = .ok (.iload_n 2, 1) := by decide +kernel
theorem dX7_triedCost_34 : decode cX7_triedCost 34 = .ok (.invokevirtual 219, 3) := by decide +kernel
theorem dX7_triedCost_37 : decode cX7_triedCost 37 = .ok (.invokevirtual 164, 3) := by decide +kernel
theorem dX7_triedCost_40 : decode cX7_triedCost 40 = .ok (.pop, 1) := by decide +kernel
theorem dX7_triedCost_41 : decode cX7_triedCost 41 = .ok (.iinc 2 1, 3) := by decide +kernel
theorem dX7_triedCost_44 : decode cX7_triedCost 44 = .ok (.goto (-31), 3) := by decide +kernel
theorem dX7_triedCost_47 : decode cX7_triedCost 47 = .ok (.aload_n 0, 1) := by decide +kernel
theorem dX7_triedCost_48 : decode cX7_triedCost 48 = .ok (.getfield 23, 3) := by decide +kernel
theorem dX7_triedCost_51 : decode cX7_triedCost 51 = .ok (.invokevirtual 213, 3) := by decide +kernel
theorem dX7_triedCost_54 : decode cX7_triedCost 54 = .ok (.aload_n 0, 1) := by decide +kernel
theorem dX7_triedCost_55 : decode cX7_triedCost 55 = .ok (.getfield 19, 3) := by decide +kernel
theorem dX7_triedCost_58 : decode cX7_triedCost 58 = .ok (.invokevirtual 213, 3) := by decide +kernel
theorem dX7_triedCost_61 : decode cX7_triedCost 61 = .ok (.isub, 1) := by decide +kernel
theorem dX7_triedCost_62 : decode cX7_triedCost 62 = .ok (.ireturn, 1) := by decide +kernel
theorem dX7_holds_0 : decode cX7_holds 0 = .ok (.iload_n 1, 1) := by decide +kernel
theorem dX7_holds_1 : decode cX7_holds 1 = .ok (.sipush 10000, 3) := by decide +kernel
theorem dX7_holds_4 : decode cX7_holds 4 = .ok (.idiv, 1) := by decide +kernel
theorem dX7_holds_5 : decode cX7_holds 5 = .ok (.istore_n 2, 1) := by decide +kernel
theorem dX7_holds_6 : decode cX7_holds 6 = .ok (.iload_n 1, 1) := by decide +kernel
theorem dX7_holds_7 : decode cX7_holds 7 = .ok (.sipush 1000, 3) := by decide +kernel
theorem dX7_holds_10 : decode cX7_holds 10 = .ok (.idiv, 1) := by decide +kernel
theorem dX7_holds_11 : decode cX7_holds 11 = .ok (.bipush 10, 2) := by decide +kernel
theorem dX7_holds_13 : decode cX7_holds 13 = .ok (.irem, 1) := by decide +kernel
theorem dX7_holds_14 : decode cX7_holds 14 = .ok (.istore_n 3, 1) := by decide +kernel
theorem dX7_holds_15 : decode cX7_holds 15 = .ok (.iload_n 1, 1) := by decide +kernel
theorem dX7_holds_16 : decode cX7_holds 16 = .ok (.bipush 10, 2) := by decide +kernel
theorem dX7_holds_18 : decode cX7_holds 18 = .ok (.idiv, 1) := by decide +kernel
theorem dX7_holds_19 : decode cX7_holds 19 = .ok (.bipush 100, 2) := by decide +kernel
theorem dX7_holds_21 : decode cX7_holds 21 = .ok (.irem, 1) := by decide +kernel
theorem dX7_holds_22 : decode cX7_holds 22 = .ok (.istore 4, 2) := by decide +kernel
theorem dX7_holds_24 : decode cX7_holds 24 = .ok (.iload_n 1, 1) := by decide +kernel
theorem dX7_holds_25 : decode cX7_holds 25 = .ok (.bipush 10, 2) := by decide +kernel
theorem dX7_holds_27 : decode cX7_holds 27 = .ok (.irem, 1) := by decide +kernel
theorem dX7_holds_28 : decode cX7_holds 28 = .ok (.istore 5, 2) := by decide +kernel
theorem dX7_holds_30 : decode cX7_holds 30 = .ok (.iload_n 2, 1) := by decide +kernel
theorem dX7_holds_31 : decode cX7_holds 31 = .ok (.bipush 7, 2) := by decide +kernel
theorem dX7_holds_33 : decode cX7_holds 33 = .ok (.if_icmp .ne 27, 3) := by decide +kernel
theorem dX7_holds_36 : decode cX7_holds 36 = .ok (.iload 4, 2) := by decide +kernel
theorem dX7_holds_38 : decode cX7_holds 38 = .ok (.ifCond .ne 20, 3) := by decide +kernel
theorem dX7_holds_41 : decode cX7_holds 41 = .ok (.iload 5, 2) := by decide +kernel
theorem dX7_holds_43 : decode cX7_holds 43 = .ok (.ifCond .ne 15, 3) := by decide +kernel
theorem dX7_holds_46 : decode cX7_holds 46 = .ok (.aload_n 0, 1) := by decide +kernel
theorem dX7_holds_47 : decode cX7_holds 47 = .ok (.iload_n 3, 1) := by decide +kernel
theorem dX7_holds_48 : decode cX7_holds 48 = .ok (.invokevirtual 185, 3) := by decide +kernel
theorem dX7_holds_51 : decode cX7_holds 51 = .ok (.ifCond .eq 7, 3) := by decide +kernel
theorem dX7_holds_54 : decode cX7_holds 54 = .ok (.iconst 1, 1) := by decide +kernel
theorem dX7_holds_55 : decode cX7_holds 55 = .ok (.goto 4, 3) := by decide +kernel
theorem dX7_holds_58 : decode cX7_holds 58 = .ok (.iconst 0, 1) := by decide +kernel
theorem dX7_holds_59 : decode cX7_holds 59 = .ok (.ireturn, 1) := by decide +kernel
theorem dX7_holds_60 : decode cX7_holds 60 = .ok (.aload_n 0, 1) := by decide +kernel
theorem dX7_holds_61 : decode cX7_holds 61 = .ok (.iload_n 3, 1) := by decide +kernel
theorem dX7_holds_62 : decode cX7_holds 62 = .ok (.invokevirtual 94, 3) := by decide +kernel
theorem dX7_holds_65 : decode cX7_holds 65 = .ok (.astore 6, 2) := by decide +kernel
theorem dX7_holds_67 : decode cX7_holds 67 = .ok (.aload 6, 2) := by decide +kernel
theorem dX7_holds_69 : decode cX7_holds 69 = .ok (.ifnull 11, 3) := by decide +kernel
theorem dX7_holds_72 : decode cX7_holds 72 = .ok (.iload 4, 2) := by decide +kernel
theorem dX7_holds_74 : decode cX7_holds 74 = .ok (.invokestatic 147, 3) := by decide +kernel
theorem dX7_holds_77 : decode cX7_holds 77 = .ok (.ifCond .ne 5, 3) := by decide +kernel
theorem dX7_holds_80 : decode cX7_holds 80 = .ok (.iconst 0, 1) := by decide +kernel
theorem dX7_holds_81 : decode cX7_holds 81 = .ok (.ireturn, 1) := by decide +kernel
theorem dX7_holds_82 : decode cX7_holds 82 = .ok (.iload_n 2, 1) := by decide +kernel
theorem dX7_holds_83 : decode cX7_holds 83 = .ok (.tableswitch 197 1 6 #[37, 59, 81, 106, 141, 176], 37) := by decide +kernel
theorem dX7_holds_120 : decode cX7_holds 120 = .ok (.iload 5, 2) := by decide +kernel
theorem dX7_holds_122 : decode cX7_holds 122 = .ok (.ifCond .ne 18, 3) := by decide +kernel
theorem dX7_holds_125 : decode cX7_holds 125 = .ok (.aload_n 0, 1) := by decide +kernel
theorem dX7_holds_126 : decode cX7_holds 126 = .ok (.iload_n 3, 1) := by decide +kernel
theorem dX7_holds_127 : decode cX7_holds 127 = .ok (.iload 4, 2) := by decide +kernel
theorem dX7_holds_129 : decode cX7_holds 129 = .ok (.invokevirtual 164, 3) := by decide +kernel
theorem dX7_holds_132 : decode cX7_holds 132 = .ok (.iconst (-1), 1) := by decide +kernel
theorem dX7_holds_133 : decode cX7_holds 133 = .ok (.if_icmp .eq 7, 3) := by decide +kernel
theorem dX7_holds_136 : decode cX7_holds 136 = .ok (.iconst 1, 1) := by decide +kernel
theorem dX7_holds_137 : decode cX7_holds 137 = .ok (.goto 4, 3) := by decide +kernel
theorem dX7_holds_140 : decode cX7_holds 140 = .ok (.iconst 0, 1) := by decide +kernel
theorem dX7_holds_141 : decode cX7_holds 141 = .ok (.ireturn, 1) := by decide +kernel
theorem dX7_holds_142 : decode cX7_holds 142 = .ok (.iload 5, 2) := by decide +kernel
theorem dX7_holds_144 : decode cX7_holds 144 = .ok (.ifCond .ne 18, 3) := by decide +kernel
theorem dX7_holds_147 : decode cX7_holds 147 = .ok (.aload_n 0, 1) := by decide +kernel
theorem dX7_holds_148 : decode cX7_holds 148 = .ok (.aload 6, 2) := by decide +kernel
theorem dX7_holds_150 : decode cX7_holds 150 = .ok (.iload 4, 2) := by decide +kernel
theorem dX7_holds_152 : decode cX7_holds 152 = .ok (.invokevirtual 171, 3) := by decide +kernel
theorem dX7_holds_155 : decode cX7_holds 155 = .ok (.ifCond .eq 7, 3) := by decide +kernel
theorem dX7_holds_158 : decode cX7_holds 158 = .ok (.iconst 1, 1) := by decide +kernel
theorem dX7_holds_159 : decode cX7_holds 159 = .ok (.goto 4, 3) := by decide +kernel
theorem dX7_holds_162 : decode cX7_holds 162 = .ok (.iconst 0, 1) := by decide +kernel
theorem dX7_holds_163 : decode cX7_holds 163 = .ok (.ireturn, 1) := by decide +kernel
theorem dX7_holds_164 : decode cX7_holds 164 = .ok (.iload 4, 2) := by decide +kernel
theorem dX7_holds_166 : decode cX7_holds 166 = .ok (.ifCond .ne 21, 3) := by decide +kernel
theorem dX7_holds_169 : decode cX7_holds 169 = .ok (.iload 5, 2) := by decide +kernel
theorem dX7_holds_171 : decode cX7_holds 171 = .ok (.ifCond .ne 16, 3) := by decide +kernel
theorem dX7_holds_174 : decode cX7_holds 174 = .ok (.aload_n 0, 1) := by decide +kernel
theorem dX7_holds_175 : decode cX7_holds 175 = .ok (.aload 6, 2) := by decide +kernel
theorem dX7_holds_177 : decode cX7_holds 177 = .ok (.invokevirtual 175, 3) := by decide +kernel
theorem dX7_holds_180 : decode cX7_holds 180 = .ok (.ifCond .eq 7, 3) := by decide +kernel
theorem dX7_holds_183 : decode cX7_holds 183 = .ok (.iconst 1, 1) := by decide +kernel
theorem dX7_holds_184 : decode cX7_holds 184 = .ok (.goto 4, 3) := by decide +kernel
theorem dX7_holds_187 : decode cX7_holds 187 = .ok (.iconst 0, 1) := by decide +kernel
theorem dX7_holds_188 : decode cX7_holds 188 = .ok (.ireturn, 1) := by decide +kernel
theorem dX7_holds_189 : decode cX7_holds 189 = .ok (.iload 5, 2) := by decide +kernel
theorem dX7_holds_191 : decode cX7_holds 191 = .ok (.iconst 1, 1) := by decide +kernel
theorem dX7_holds_192 : decode cX7_holds 192 = .ok (.if_icmp .gt 30, 3) := by decide +kernel
theorem dX7_holds_195 : decode cX7_holds 195 = .ok (.aload_n 0, 1) := by decide +kernel
theorem dX7_holds_196 : decode cX7_holds 196 = .ok (.aload 6, 2) := by decide +kernel
theorem dX7_holds_198 : decode cX7_holds 198 = .ok (.iconst 0, 1) := by decide +kernel
theorem dX7_holds_199 : decode cX7_holds 199 = .ok (.iload 4, 2) := by decide +kernel
theorem dX7_holds_201 : decode cX7_holds 201 = .ok (.invokevirtual 157, 3) := by decide +kernel
theorem dX7_holds_204 : decode cX7_holds 204 = .ok (.iload 5, 2) := by decide +kernel
theorem dX7_holds_206 : decode cX7_holds 206 = .ok (.iconst 1, 1) := by decide +kernel
theorem dX7_holds_207 : decode cX7_holds 207 = .ok (.if_icmp .ne 7, 3) := by decide +kernel
theorem dX7_holds_210 : decode cX7_holds 210 = .ok (.iconst 1, 1) := by decide +kernel
theorem dX7_holds_211 : decode cX7_holds 211 = .ok (.goto 4, 3) := by decide +kernel
theorem dX7_holds_214 : decode cX7_holds 214 = .ok (.iconst 0, 1) := by decide +kernel
theorem dX7_holds_215 : decode cX7_holds 215 = .ok (.if_icmp .ne 7, 3) := by decide +kernel
theorem dX7_holds_218 : decode cX7_holds 218 = .ok (.iconst 1, 1) := by decide +kernel
theorem dX7_holds_219 : decode cX7_holds 219 = .ok (.goto 4, 3) := by decide +kernel
theorem dX7_holds_222 : decode cX7_holds 222 = .ok (.iconst 0, 1) := by decide +kernel
theorem dX7_holds_223 : decode cX7_holds 223 = .ok (.ireturn, 1) := by decide +kernel
theorem dX7_holds_224 : decode cX7_holds 224 = .ok (.iload 5, 2) := by decide +kernel
theorem dX7_holds_226 : decode cX7_holds 226 = .ok (.iconst 1, 1) := by decide +kernel
theorem dX7_holds_227 : decode cX7_holds 227 = .ok (.if_icmp .gt 30, 3) := by decide +kernel
theorem dX7_holds_230 : decode cX7_holds 230 = .ok (.aload_n 0, 1) := by decide +kernel
theorem dX7_holds_231 : decode cX7_holds 231 = .ok (.aload 6, 2) := by decide +kernel
theorem dX7_holds_233 : decode cX7_holds 233 = .ok (.iconst 1, 1) := by decide +kernel
theorem dX7_holds_234 : decode cX7_holds 234 = .ok (.iload 4, 2) := by decide +kernel
theorem dX7_holds_236 : decode cX7_holds 236 = .ok (.invokevirtual 157, 3) := by decide +kernel
theorem dX7_holds_239 : decode cX7_holds 239 = .ok (.iload 5, 2) := by decide +kernel
theorem dX7_holds_241 : decode cX7_holds 241 = .ok (.iconst 1, 1) := by decide +kernel
theorem dX7_holds_242 : decode cX7_holds 242 = .ok (.if_icmp .ne 7, 3) := by decide +kernel
theorem dX7_holds_245 : decode cX7_holds 245 = .ok (.iconst 1, 1) := by decide +kernel
theorem dX7_holds_246 : decode cX7_holds 246 = .ok (.goto 4, 3) := by decide +kernel
theorem dX7_holds_249 : decode cX7_holds 249 = .ok (.iconst 0, 1) := by decide +kernel
theorem dX7_holds_250 : decode cX7_holds 250 = .ok (.if_icmp .ne 7, 3) := by decide +kernel
theorem dX7_holds_253 : decode cX7_holds 253 = .ok (.iconst 1, 1) := by decide +kernel
theorem dX7_holds_254 : decode cX7_holds 254 = .ok (.goto 4, 3) := by decide +kernel
theorem dX7_holds_257 : decode cX7_holds 257 = .ok (.iconst 0, 1) := by decide +kernel
theorem dX7_holds_258 : decode cX7_holds 258 = .ok (.ireturn, 1) := by decide +kernel
theorem dX7_holds_259 : decode cX7_holds 259 = .ok (.iload 4, 2) := by decide +kernel
theorem dX7_holds_261 : decode cX7_holds 261 = .ok (.ifCond .ne 17, 3) := by decide +kernel
theorem dX7_holds_264 : decode cX7_holds 264 = .ok (.aload 6, 2) := by decide +kernel
theorem dX7_holds_266 : decode cX7_holds 266 = .ok (.getfield 109, 3) := by decide +kernel
theorem dX7_holds_269 : decode cX7_holds 269 = .ok (.iload 5, 2) := by decide +kernel
theorem dX7_holds_271 : decode cX7_holds 271 = .ok (.if_icmp .ne 7, 3) := by decide +kernel
theorem dX7_holds_274 : decode cX7_holds 274 = .ok (.iconst 1, 1) := by decide +kernel
theorem dX7_holds_275 : decode cX7_holds 275 = .ok (.goto 4, 3) := by decide +kernel
theorem dX7_holds_278 : decode cX7_holds 278 = .ok (.iconst 0, 1) := by decide +kernel
theorem dX7_holds_279 : decode cX7_holds 279 = .ok (.ireturn, 1) := by decide +kernel
theorem dX7_holds_280 : decode cX7_holds 280 = .ok (.iconst 0, 1) := by decide +kernel
theorem dX7_holds_281 : decode cX7_holds 281 = .ok (.ireturn, 1) := by decide +kernel
theorem dX8_init_0 : decode cX8_init 0 = .ok (.aload_n 0, 1) := by decide +kernel
theorem dX8_init_1 : decode cX8_init 1 = .ok (.invokespecial 1, 3) := by decide +kernel
theorem dX8_init_4 : decode cX8_init 4 = .ok (.aload_n 0, 1) := by decide +kernel
theorem dX8_init_5 : decode cX8_init 5 = .ok (.bipush 100, 2) := by decide +kernel
theorem dX8_init_7 : decode cX8_init 7 = .ok (.newarray .int, 2) := by decide +kernel
theorem dX8_init_9 : decode cX8_init 9 = .ok (.putfield 7, 3) := by decide +kernel
theorem dX8_init_12 : decode cX8_init 12 = .ok (.aload_n 0, 1) := by decide +kernel
theorem dX8_init_13 : decode cX8_init 13 = .ok (.bipush 8, 2) := by decide +kernel
theorem dX8_init_15 : decode cX8_init 15 = .ok (.putfield 13, 3) := by decide +kernel
theorem dX8_init_18 : decode cX8_init 18 = .ok (.aload_n 0, 1) := by decide +kernel
theorem dX8_init_19 : decode cX8_init 19 = .ok (.iconst 2, 1) := by decide +kernel
theorem dX8_init_20 : decode cX8_init 20 = .ok (.putfield 17, 3) := by decide +kernel
theorem dX8_init_23 : decode cX8_init 23 = .ok (.aload_n 0, 1) := by decide +kernel
theorem dX8_init_24 : decode cX8_init 24 = .ok (.iconst 1, 1) := by decide +kernel
theorem dX8_init_25 : decode cX8_init 25 = .ok (.putfield 20, 3) := by decide +kernel
theorem dX8_init_28 : decode cX8_init 28 = .ok (.aload_n 0, 1) := by decide +kernel
theorem dX8_init_29 : decode cX8_init 29 = .ok (.iconst 3, 1) := by decide +kernel
theorem dX8_init_30 : decode cX8_init 30 = .ok (.newarray .int, 2) := by decide +kernel
theorem dX8_init_32 : decode cX8_init 32 = .ok (.putfield 23, 3) := by decide +kernel
theorem dX8_init_35 : decode cX8_init 35 = .ok (.aload_n 0, 1) := by decide +kernel
theorem dX8_init_36 : decode cX8_init 36 = .ok (.iconst 3, 1) := by decide +kernel
theorem dX8_init_37 : decode cX8_init 37 = .ok (.newarray .int, 2) := by decide +kernel
theorem dX8_init_39 : decode cX8_init 39 = .ok (.putfield 26, 3) := by decide +kernel
theorem dX8_init_42 : decode cX8_init 42 = .ok (.aload_n 0, 1) := by decide +kernel
theorem dX8_init_43 : decode cX8_init 43 = .ok (.iconst 4, 1) := by decide +kernel
theorem dX8_init_44 : decode cX8_init 44 = .ok (.newarray .int, 2) := by decide +kernel
theorem dX8_init_46 : decode cX8_init 46 = .ok (.putfield 29, 3) := by decide +kernel
theorem dX8_init_49 : decode cX8_init 49 = .ok (.aload_n 0, 1) := by decide +kernel
theorem dX8_init_50 : decode cX8_init 50 = .ok (.iconst 3, 1) := by decide +kernel
theorem dX8_init_51 : decode cX8_init 51 = .ok (.newarray .int, 2) := by decide +kernel
theorem dX8_init_53 : decode cX8_init 53 = .ok (.putfield 32, 3) := by decide +kernel
theorem dX8_init_56 : decode cX8_init 56 = .ok (.aload_n 0, 1) := by decide +kernel
theorem dX8_init_57 : decode cX8_init 57 = .ok (.iconst 3, 1) := by decide +kernel
theorem dX8_init_58 : decode cX8_init 58 = .ok (.newarray .int, 2) := by decide +kernel
theorem dX8_init_60 : decode cX8_init 60 = .ok (.putfield 35, 3) := by decide +kernel
theorem dX8_init_63 : decode cX8_init 63 = .ok (.aload_n 0, 1) := by decide +kernel
theorem dX8_init_64 : decode cX8_init 64 = .ok (.iconst 4, 1) := by decide +kernel
theorem dX8_init_65 : decode cX8_init 65 = .ok (.newarray .int, 2) := by decide +kernel
theorem dX8_init_67 : decode cX8_init 67 = .ok (.putfield 38, 3) := by decide +kernel
theorem dX8_init_70 : decode cX8_init 70 = .ok (.aload_n 0, 1) := by decide +kernel
theorem dX8_init_71 : decode cX8_init 71 = .ok (.bipush 121, 2) := by decide +kernel
theorem dX8_init_73 : decode cX8_init 73 = .ok (.newarray .int, 2) := by decide +kernel
theorem dX8_init_75 : decode cX8_init 75 = .ok (.putfield 41, 3) := by decide +kernel
theorem dX8_init_78 : decode cX8_init 78 = .ok (.aload_n 0, 1) := by decide +kernel
theorem dX8_init_79 : decode cX8_init 79 = .ok (.bipush 121, 2) := by decide +kernel
theorem dX8_init_81 : decode cX8_init 81 = .ok (.newarray .int, 2) := by decide +kernel
theorem dX8_init_83 : decode cX8_init 83 = .ok (.putfield 44, 3) := by decide +kernel
theorem dX8_init_86 : decode cX8_init 86 = .ok (.aload_n 0, 1) := by decide +kernel
theorem dX8_init_87 : decode cX8_init 87 = .ok (.bipush 121, 2) := by decide +kernel
theorem dX8_init_89 : decode cX8_init 89 = .ok (.newarray .int, 2) := by decide +kernel
theorem dX8_init_91 : decode cX8_init 91 = .ok (.putfield 47, 3) := by decide +kernel
theorem dX8_init_94 : decode cX8_init 94 = .ok (.aload_n 0, 1) := by decide +kernel
theorem dX8_init_95 : decode cX8_init 95 = .ok (.sipush 1694, 3) := by decide +kernel
theorem dX8_init_98 : decode cX8_init 98 = .ok (.newarray .int, 2) := by decide +kernel
theorem dX8_init_100 : decode cX8_init 100 = .ok (.putfield 50, 3) := by decide +kernel
theorem dX8_init_103 : decode cX8_init 103 = .ok (.aload_n 0, 1) := by decide +kernel
theorem dX8_init_104 : decode cX8_init 104 = .ok (.sipush 242, 3) := by decide +kernel
theorem dX8_init_107 : decode cX8_init 107 = .ok (.newarray .int, 2) := by decide +kernel
theorem dX8_init_109 : decode cX8_init 109 = .ok (.putfield 53, 3) := by decide +kernel
theorem dX8_init_112 : decode cX8_init 112 = .ok (.aload_n 0, 1) := by decide +kernel
theorem dX8_init_113 : decode cX8_init 113 = .ok (.iconst 2, 1) := by decide +kernel
theorem dX8_init_114 : decode cX8_init 114 = .ok (.newarray .boolean, 2) := by decide +kernel
theorem dX8_init_116 : decode cX8_init 116 = .ok (.putfield 56, 3) := by decide +kernel
theorem dX8_init_119 : decode cX8_init 119 = .ok (.aload_n 0, 1) := by decide +kernel
theorem dX8_init_120 : decode cX8_init 120 = .ok (.bipush 6, 2) := by decide +kernel
theorem dX8_init_122 : decode cX8_init 122 = .ok (.newarray .int, 2) := by decide +kernel
theorem dX8_init_124 : decode cX8_init 124 = .ok (.putfield 60, 3) := by decide +kernel
theorem dX8_init_127 : decode cX8_init 127 = .ok (.aload_n 0, 1) := by decide +kernel
theorem dX8_init_128 : decode cX8_init 128 = .ok (.bipush 6, 2) := by decide +kernel
theorem dX8_init_130 : decode cX8_init 130 = .ok (.newarray .int, 2) := by decide +kernel
theorem dX8_init_132 : decode cX8_init 132 = .ok (.putfield 63, 3) := by decide +kernel
theorem dX8_init_135 : decode cX8_init 135 = .ok (.aload_n 0, 1) := by decide +kernel
theorem dX8_init_136 : decode cX8_init 136 = .ok (.bipush 6, 2) := by decide +kernel
theorem dX8_init_138 : decode cX8_init 138 = .ok (.newarray .int, 2) := by decide +kernel
theorem dX8_init_140 : decode cX8_init 140 = .ok (.putfield 66, 3) := by decide +kernel
theorem dX8_init_143 : decode cX8_init 143 = .ok (.aload_n 0, 1) := by decide +kernel
theorem dX8_init_144 : decode cX8_init 144 = .ok (.iconst 5, 1) := by decide +kernel
theorem dX8_init_145 : decode cX8_init 145 = .ok (.newarray .int, 2) := by decide +kernel
theorem dX8_init_147 : decode cX8_init 147 = .ok (.putfield 69, 3) := by decide +kernel
theorem dX8_init_150 : decode cX8_init 150 = .ok (.aload_n 0, 1) := by decide +kernel
theorem dX8_init_151 : decode cX8_init 151 = .ok (.iconst 5, 1) := by decide +kernel
theorem dX8_init_152 : decode cX8_init 152 = .ok (.newarray .int, 2) := by decide +kernel
theorem dX8_init_154 : decode cX8_init 154 = .ok (.putfield 72, 3) := by decide +kernel
theorem dX8_init_157 : decode cX8_init 157 = .ok (.aload_n 0, 1) := by decide +kernel
theorem dX8_init_158 : decode cX8_init 158 = .ok (.getfield 23, 3) := by decide +kernel
theorem dX8_init_161 : decode cX8_init 161 = .ok (.iconst 0, 1) := by decide +kernel
theorem dX8_init_162 : decode cX8_init 162 = .ok (.iconst 1, 1) := by decide +kernel
theorem dX8_init_163 : decode cX8_init 163 = .ok (.iastore, 1) := by decide +kernel
theorem dX8_init_164 : decode cX8_init 164 = .ok (.aload_n 0, 1) := by decide +kernel
theorem dX8_init_165 : decode cX8_init 165 = .ok (.getfield 26, 3) := by decide +kernel
theorem dX8_init_168 : decode cX8_init 168 = .ok (.iconst 0, 1) := by decide +kernel
theorem dX8_init_169 : decode cX8_init 169 = .ok (.iconst 1, 1) := by decide +kernel
theorem dX8_init_170 : decode cX8_init 170 = .ok (.iastore, 1) := by decide +kernel
theorem dX8_init_171 : decode cX8_init 171 = .ok (.return_, 1) := by decide +kernel
theorem dX8_in_0 : decode cX8_in 0 = .ok (.lload_n 0, 1) := by decide +kernel
theorem dX8_in_1 : decode cX8_in 1 = .ok (.lload_n 2, 1) := by decide +kernel
theorem dX8_in_2 : decode cX8_in 2 = .ok (.lcmp, 1) := by decide +kernel
theorem dX8_in_3 : decode cX8_in 3 = .ok (.ifCond .lt 14, 3) := by decide +kernel
theorem dX8_in_6 : decode cX8_in 6 = .ok (.lload_n 0, 1) := by decide +kernel
theorem dX8_in_7 : decode cX8_in 7 = .ok (.lload 4, 2) := by decide +kernel
theorem dX8_in_9 : decode cX8_in 9 = .ok (.lcmp, 1) := by decide +kernel
theorem dX8_in_10 : decode cX8_in 10 = .ok (.ifCond .gt 7, 3) := by decide +kernel
theorem dX8_in_13 : decode cX8_in 13 = .ok (.iconst 1, 1) := by decide +kernel
theorem dX8_in_14 : decode cX8_in 14 = .ok (.goto 4, 3) := by decide +kernel
theorem dX8_in_17 : decode cX8_in 17 = .ok (.iconst 0, 1) := by decide +kernel
theorem dX8_in_18 : decode cX8_in 18 = .ok (.ireturn, 1) := by decide +kernel
theorem dX8_has_0 : decode cX8_has 0 = .ok (.iload_n 0, 1) := by decide +kernel
theorem dX8_has_1 : decode cX8_has 1 = .ok (.iload_n 1, 1) := by decide +kernel
theorem dX8_has_2 : decode cX8_has 2 = .ok (.ishr, 1) := by decide +kernel
theorem dX8_has_3 : decode cX8_has 3 = .ok (.iconst 1, 1) := by decide +kernel
theorem dX8_has_4 : decode cX8_has 4 = .ok (.iand, 1) := by decide +kernel
theorem dX8_has_5 : decode cX8_has 5 = .ok (.iconst 1, 1) := by decide +kernel
theorem dX8_has_6 : decode cX8_has 6 = .ok (.if_icmp .ne 7, 3) := by decide +kernel
theorem dX8_has_9 : decode cX8_has 9 = .ok (.iconst 1, 1) := by decide +kernel
theorem dX8_has_10 : decode cX8_has 10 = .ok (.goto 4, 3) := by decide +kernel
theorem dX8_has_13 : decode cX8_has 13 = .ok (.iconst 0, 1) := by decide +kernel
theorem dX8_has_14 : decode cX8_has 14 = .ok (.ireturn, 1) := by decide +kernel
theorem dX8_ones_0 : decode cX8_ones 0 = .ok (.iconst 0, 1) := by decide +kernel
theorem dX8_ones_1 : decode cX8_ones 1 = .ok (.istore_n 1, 1) := by decide +kernel
theorem dX8_ones_2 : decode cX8_ones 2 = .ok (.iconst 0, 1) := by decide +kernel
theorem dX8_ones_3 : decode cX8_ones 3 = .ok (.istore_n 2, 1) := by decide +kernel
theorem dX8_ones_4 : decode cX8_ones 4 = .ok (.iload_n 2, 1) := by decide +kernel
theorem dX8_ones_5 : decode cX8_ones 5 = .ok (.bipush 32, 2) := by decide +kernel
theorem dX8_ones_7 : decode cX8_ones 7 = .ok (.if_icmp .ge 17, 3) := by decide +kernel
theorem dX8_ones_10 : decode cX8_ones 10 = .ok (.iload_n 1, 1) := by decide +kernel
theorem dX8_ones_11 : decode cX8_ones 11 = .ok (.iload_n 0, 1) := by decide +kernel
theorem dX8_ones_12 : decode cX8_ones 12 = .ok (.iload_n 2, 1) := by decide +kernel
theorem dX8_ones_13 : decode cX8_ones 13 = .ok (.ishr, 1) := by decide +kernel
theorem dX8_ones_14 : decode cX8_ones 14 = .ok (.iconst 1, 1) := by decide +kernel
theorem dX8_ones_15 : decode cX8_ones 15 = .ok (.iand, 1) := by decide +kernel
theorem dX8_ones_16 : decode cX8_ones 16 = .ok (.iadd, 1) := by decide +kernel
theorem dX8_ones_17 : decode cX8_ones 17 = .ok (.istore_n 1, 1) := by decide +kernel
theorem dX8_ones_18 : decode cX8_ones 18 = .ok (.iinc 2 1, 3) := by decide +kernel
theorem dX8_ones_21 : decode cX8_ones 21 = .ok (.goto (-17), 3) := by decide +kernel
theorem dX8_ones_24 : decode cX8_ones 24 = .ok (.iload_n 1, 1) := by decide +kernel
theorem dX8_ones_25 : decode cX8_ones 25 = .ok (.ireturn, 1) := by decide +kernel
theorem dX8_power_0 : decode cX8_power 0 = .ok (.iconst 1, 1) := by decide +kernel
theorem dX8_power_1 : decode cX8_power 1 = .ok (.istore_n 2, 1) := by decide +kernel
theorem dX8_power_2 : decode cX8_power 2 = .ok (.iconst 0, 1) := by decide +kernel
theorem dX8_power_3 : decode cX8_power 3 = .ok (.istore_n 3, 1) := by decide +kernel
theorem dX8_power_4 : decode cX8_power 4 = .ok (.iload_n 3, 1) := by decide +kernel
theorem dX8_power_5 : decode cX8_power 5 = .ok (.iload_n 1, 1) := by decide +kernel
theorem dX8_power_6 : decode cX8_power 6 = .ok (.if_icmp .ge 13, 3) := by decide +kernel
theorem dX8_power_9 : decode cX8_power 9 = .ok (.iload_n 2, 1) := by decide +kernel
theorem dX8_power_10 : decode cX8_power 10 = .ok (.iload_n 0, 1) := by decide +kernel
theorem dX8_power_11 : decode cX8_power 11 = .ok (.imul, 1) := by decide +kernel
theorem dX8_power_12 : decode cX8_power 12 = .ok (.istore_n 2, 1) := by decide +kernel
theorem dX8_power_13 : decode cX8_power 13 = .ok (.iinc 3 1, 3) := by decide +kernel
theorem dX8_power_16 : decode cX8_power 16 = .ok (.goto (-12), 3) := by decide +kernel
theorem dX8_power_19 : decode cX8_power 19 = .ok (.iload_n 2, 1) := by decide +kernel
theorem dX8_power_20 : decode cX8_power 20 = .ok (.ireturn, 1) := by decide +kernel
theorem dX8_layTrial_0 : decode cX8_layTrial 0 = .ok (.iconst 0, 1) := by decide +kernel
theorem dX8_layTrial_1 : decode cX8_layTrial 1 = .ok (.istore_n 1, 1) := by decide +kernel
theorem dX8_layTrial_2 : decode cX8_layTrial 2 = .ok (.iload_n 1, 1) := by decide +kernel
theorem dX8_layTrial_3 : decode cX8_layTrial 3 = .ok (.bipush 121, 2) := by decide +kernel
theorem dX8_layTrial_5 : decode cX8_layTrial 5 = .ok (.if_icmp .ge 21, 3) := by decide +kernel
theorem dX8_layTrial_8 : decode cX8_layTrial 8 = .ok (.aload_n 0, 1) := by decide +kernel
theorem dX8_layTrial_9 : decode cX8_layTrial 9 = .ok (.getfield 47, 3) := by decide +kernel
theorem dX8_layTrial_12 : decode cX8_layTrial 12 = .ok (.iload_n 1, 1) := by decide +kernel
theorem dX8_layTrial_13 : decode cX8_layTrial 13 = .ok (.aload_n 0, 1) := by decide +kernel
theorem dX8_layTrial_14 : decode cX8_layTrial 14 = .ok (.getfield 44, 3) := by decide +kernel
theorem dX8_layTrial_17 : decode cX8_layTrial 17 = .ok (.iload_n 1, 1) := by decide +kernel
theorem dX8_layTrial_18 : decode cX8_layTrial 18 = .ok (.iaload, 1) := by decide +kernel
theorem dX8_layTrial_19 : decode cX8_layTrial 19 = .ok (.iastore, 1) := by decide +kernel
theorem dX8_layTrial_20 : decode cX8_layTrial 20 = .ok (.iinc 1 1, 3) := by decide +kernel
theorem dX8_layTrial_23 : decode cX8_layTrial 23 = .ok (.goto (-21), 3) := by decide +kernel
theorem dX8_layTrial_26 : decode cX8_layTrial 26 = .ok (.return_, 1) := by decide +kernel
theorem dX8_noProxy_0 : decode cX8_noProxy 0 = .ok (.iload_n 1, 1) := by decide +kernel
theorem dX8_noProxy_1 : decode cX8_noProxy 1 = .ok (.i2l, 1) := by decide +kernel
theorem dX8_noProxy_2 : decode cX8_noProxy 2 = .ok (.lconst 0, 1) := by decide +kernel
theorem dX8_noProxy_3 : decode cX8_noProxy 3 = .ok (.aload_n 0, 1) := by decide +kernel
theorem dX8_noProxy_4 : decode cX8_noProxy 4 = .ok (.getfield 78, 3) := by decide +kernel
theorem dX8_noProxy_7 : decode cX8_noProxy 7 = .ok (.iconst 1, 1) := by decide +kernel
theorem dX8_noProxy_8 : decode cX8_noProxy 8 = .ok (.isub, 1) := by decide +kernel
theorem dX8_noProxy_9 : decode cX8_noProxy 9 = .ok (.i2l, 1) := by decide +kernel
theorem dX8_noProxy_10 : decode cX8_noProxy 10 = .ok (.invokestatic 81, 3) := by decide +kernel
theorem dX8_noProxy_13 : decode cX8_noProxy 13 = .ok (.ifCond .ne 7, 3) := by decide +kernel
theorem dX8_noProxy_16 : decode cX8_noProxy 16 = .ok (.iconst 1, 1) := by decide +kernel
theorem dX8_noProxy_17 : decode cX8_noProxy 17 = .ok (.goto 4, 3) := by decide +kernel
theorem dX8_noProxy_20 : decode cX8_noProxy 20 = .ok (.iconst 0, 1) := by decide +kernel
theorem dX8_noProxy_21 : decode cX8_noProxy 21 = .ok (.ireturn, 1) := by decide +kernel
theorem dX8_noPage_0 : decode cX8_noPage 0 = .ok (.iload_n 0, 1) := by decide +kernel
theorem dX8_noPage_1 : decode cX8_noPage 1 = .ok (.i2l, 1) := by decide +kernel
theorem dX8_noPage_2 : decode cX8_noPage 2 = .ok (.lconst 0, 1) := by decide +kernel
theorem dX8_noPage_3 : decode cX8_noPage 3 = .ok (.ldc2_w 85, 3) := by decide +kernel
theorem dX8_noPage_6 : decode cX8_noPage 6 = .ok (.invokestatic 81, 3) := by decide +kernel
theorem dX8_noPage_9 : decode cX8_noPage 9 = .ok (.ifCond .ne 7, 3) := by decide +kernel
theorem dX8_noPage_12 : decode cX8_noPage 12 = .ok (.iconst 1, 1) := by decide +kernel
theorem dX8_noPage_13 : decode cX8_noPage 13 = .ok (.goto 4, 3) := by decide +kernel
theorem dX8_noPage_16 : decode cX8_noPage 16 = .ok (.iconst 0, 1) := by decide +kernel
theorem dX8_noPage_17 : decode cX8_noPage 17 = .ok (.ireturn, 1) := by decide +kernel
theorem dX8_write_0 : decode cX8_write 0 = .ok (.aload_n 0, 1) := by decide +kernel
theorem dX8_write_1 : decode cX8_write 1 = .ok (.iconst 0, 1) := by decide +kernel
theorem dX8_write_2 : decode cX8_write 2 = .ok (.putfield 75, 3) := by decide +kernel
theorem dX8_write_5 : decode cX8_write 5 = .ok (.iload_n 1, 1) := by decide +kernel
theorem dX8_write_6 : decode cX8_write 6 = .ok (.i2l, 1) := by decide +kernel
theorem dX8_write_7 : decode cX8_write 7 = .ok (.lconst 0, 1) := by decide +kernel
theorem dX8_write_8 : decode cX8_write 8 = .ok (.ldc2_w 87, 3) := by decide +kernel
theorem dX8_write_11 : decode cX8_write 11 = .ok (.invokestatic 81, 3) := by decide +kernel
theorem dX8_write_14 : decode cX8_write 14 = .ok (.ifCond .ne 6, 3) := by decide +kernel
theorem dX8_write_17 : decode cX8_write 17 = .ok (.bipush (-2), 2) := by decide +kernel
theorem dX8_write_19 : decode cX8_write 19 = .ok (.ireturn, 1) := by decide +kernel
theorem dX8_write_20 : decode cX8_write 20 = .ok (.aload_n 0, 1) := by decide +kernel
theorem dX8_write_21 : decode cX8_write 21 = .ok (.getfield 89, 3) := by decide +kernel
theorem dX8_write_24 : decode cX8_write 24 = .ok (.bipush 100, 2) := by decide +kernel
theorem dX8_write_26 : decode cX8_write 26 = .ok (.if_icmp .ne 6, 3) := by decide +kernel
theorem dX8_write_29 : decode cX8_write 29 = .ok (.bipush (-4), 2) := by decide +kernel
theorem dX8_write_31 : decode cX8_write 31 = .ok (.ireturn, 1) := by decide +kernel
theorem dX8_write_32 : decode cX8_write 32 = .ok (.aload_n 0, 1) := by decide +kernel
theorem dX8_write_33 : decode cX8_write 33 = .ok (.getfield 7, 3) := by decide +kernel
theorem dX8_write_36 : decode cX8_write 36 = .ok (.aload_n 0, 1) := by decide +kernel
theorem dX8_write_37 : decode cX8_write 37 = .ok (.getfield 89, 3) := by decide +kernel
theorem dX8_write_40 : decode cX8_write 40 = .ok (.iload_n 1, 1) := by decide +kernel
theorem dX8_write_41 : decode cX8_write 41 = .ok (.iastore, 1) := by decide +kernel
theorem dX8_write_42 : decode cX8_write 42 = .ok (.aload_n 0, 1) := by decide +kernel
theorem dX8_write_43 : decode cX8_write 43 = .ok (.dup, 1) := by decide +kernel
theorem dX8_write_44 : decode cX8_write 44 = .ok (.getfield 89, 3) := by decide +kernel
theorem dX8_write_47 : decode cX8_write 47 = .ok (.iconst 1, 1) := by decide +kernel
theorem dX8_write_48 : decode cX8_write 48 = .ok (.iadd, 1) := by decide +kernel
theorem dX8_write_49 : decode cX8_write 49 = .ok (.putfield 89, 3) := by decide +kernel
theorem dX8_write_52 : decode cX8_write 52 = .ok (.aload_n 0, 1) := by decide +kernel
theorem dX8_write_53 : decode cX8_write 53 = .ok (.getfield 89, 3) := by decide +kernel
theorem dX8_write_56 : decode cX8_write 56 = .ok (.ireturn, 1) := by decide +kernel
theorem dX8_wipe_0 : decode cX8_wipe 0 = .ok (.aload_n 0, 1) := by decide +kernel
theorem dX8_wipe_1 : decode cX8_wipe 1 = .ok (.iconst 0, 1) := by decide +kernel
theorem dX8_wipe_2 : decode cX8_wipe 2 = .ok (.putfield 75, 3) := by decide +kernel
theorem dX8_wipe_5 : decode cX8_wipe 5 = .ok (.aload_n 0, 1) := by decide +kernel
theorem dX8_wipe_6 : decode cX8_wipe 6 = .ok (.getfield 89, 3) := by decide +kernel
theorem dX8_wipe_9 : decode cX8_wipe 9 = .ok (.istore_n 1, 1) := by decide +kernel
theorem dX8_wipe_10 : decode cX8_wipe 10 = .ok (.aload_n 0, 1) := by decide +kernel
theorem dX8_wipe_11 : decode cX8_wipe 11 = .ok (.iconst 0, 1) := by decide +kernel
theorem dX8_wipe_12 : decode cX8_wipe 12 = .ok (.putfield 89, 3) := by decide +kernel
theorem dX8_wipe_15 : decode cX8_wipe 15 = .ok (.iload_n 1, 1) := by decide +kernel
theorem dX8_wipe_16 : decode cX8_wipe 16 = .ok (.ireturn, 1) := by decide +kernel
theorem dX8_isFigure_0 : decode cX8_isFigure 0 = .ok (.aload_n 0, 1) := by decide +kernel
theorem dX8_isFigure_1 : decode cX8_isFigure 1 = .ok (.getfield 92, 3) := by decide +kernel
theorem dX8_isFigure_4 : decode cX8_isFigure 4 = .ok (.aload_n 0, 1) := by decide +kernel
theorem dX8_isFigure_5 : decode cX8_isFigure 5 = .ok (.getfield 89, 3) := by decide +kernel
theorem dX8_isFigure_8 : decode cX8_isFigure 8 = .ok (.if_icmp .ge 30, 3) := by decide +kernel
theorem dX8_isFigure_11 : decode cX8_isFigure 11 = .ok (.aload_n 0, 1) := by decide +kernel
theorem dX8_isFigure_12 : decode cX8_isFigure 12 = .ok (.getfield 7, 3) := by decide +kernel
theorem dX8_isFigure_15 : decode cX8_isFigure 15 = .ok (.aload_n 0, 1) := by decide +kernel
theorem dX8_isFigure_16 : decode cX8_isFigure 16 = .ok (.getfield 92, 3) := by decide +kernel
theorem dX8_isFigure_19 : decode cX8_isFigure 19 = .ok (.iaload, 1) := by decide +kernel
theorem dX8_isFigure_20 : decode cX8_isFigure 20 = .ok (.bipush 48, 2) := by decide +kernel
theorem dX8_isFigure_22 : decode cX8_isFigure 22 = .ok (.isub, 1) := by decide +kernel
theorem dX8_isFigure_23 : decode cX8_isFigure 23 = .ok (.i2l, 1) := by decide +kernel
theorem dX8_isFigure_24 : decode cX8_isFigure 24 = .ok (.iload_n 1, 1) := by decide +kernel
theorem dX8_isFigure_25 : decode cX8_isFigure 25 = .ok (.i2l, 1) := by decide +kernel
theorem dX8_isFigure_26 : decode cX8_isFigure 26 = .ok (.iload_n 2, 1) := by decide +kernel
theorem dX8_isFigure_27 : decode cX8_isFigure 27 = .ok (.i2l, 1) := by decide +kernel
theorem dX8_isFigure_28 : decode cX8_isFigure 28 = .ok (.invokestatic 81, 3) := by decide +kernel
theorem dX8_isFigure_31 : decode cX8_isFigure 31 = .ok (.ifCond .eq 7, 3) := by decide +kernel
theorem dX8_isFigure_34 : decode cX8_isFigure 34 = .ok (.iconst 1, 1) := by decide +kernel
theorem dX8_isFigure_35 : decode cX8_isFigure 35 = .ok (.goto 4, 3) := by decide +kernel
theorem dX8_isFigure_38 : decode cX8_isFigure 38 = .ok (.iconst 0, 1) := by decide +kernel
theorem dX8_isFigure_39 : decode cX8_isFigure 39 = .ok (.istore_n 3, 1) := by decide +kernel
theorem dX8_isFigure_40 : decode cX8_isFigure 40 = .ok (.aload_n 0, 1) := by decide +kernel
theorem dX8_isFigure_41 : decode cX8_isFigure 41 = .ok (.dup, 1) := by decide +kernel
theorem dX8_isFigure_42 : decode cX8_isFigure 42 = .ok (.getfield 92, 3) := by decide +kernel
theorem dX8_isFigure_45 : decode cX8_isFigure 45 = .ok (.iload_n 3, 1) := by decide +kernel
theorem dX8_isFigure_46 : decode cX8_isFigure 46 = .ok (.ifCond .eq 7, 3) := by decide +kernel
theorem dX8_isFigure_49 : decode cX8_isFigure 49 = .ok (.iconst 1, 1) := by decide +kernel
theorem dX8_isFigure_50 : decode cX8_isFigure 50 = .ok (.goto 4, 3) := by decide +kernel
theorem dX8_isFigure_53 : decode cX8_isFigure 53 = .ok (.iconst 0, 1) := by decide +kernel
theorem dX8_isFigure_54 : decode cX8_isFigure 54 = .ok (.iadd, 1) := by decide +kernel
theorem dX8_isFigure_55 : decode cX8_isFigure 55 = .ok (.putfield 92, 3) := by decide +kernel
theorem dX8_isFigure_58 : decode cX8_isFigure 58 = .ok (.iload_n 3, 1) := by decide +kernel
theorem dX8_isFigure_59 : decode cX8_isFigure 59 = .ok (.ireturn, 1) := by decide +kernel
theorem dX8_taken_0 : decode cX8_taken 0 = .ok (.aload_n 0, 1) := by decide +kernel
theorem dX8_taken_1 : decode cX8_taken 1 = .ok (.getfield 7, 3) := by decide +kernel
theorem dX8_taken_4 : decode cX8_taken 4 = .ok (.aload_n 0, 1) := by decide +kernel
theorem dX8_taken_5 : decode cX8_taken 5 = .ok (.getfield 92, 3) := by decide +kernel
theorem dX8_taken_8 : decode cX8_taken 8 = .ok (.iload_n 1, 1) := by decide +kernel
theorem dX8_taken_9 : decode cX8_taken 9 = .ok (.isub, 1) := by decide +kernel
theorem dX8_taken_10 : decode cX8_taken 10 = .ok (.iaload, 1) := by decide +kernel
theorem dX8_taken_11 : decode cX8_taken 11 = .ok (.bipush 48, 2) := by decide +kernel
theorem dX8_taken_13 : decode cX8_taken 13 = .ok (.isub, 1) := by decide +kernel
theorem dX8_taken_14 : decode cX8_taken 14 = .ok (.ireturn, 1) := by decide +kernel
theorem dX8_readHead_0 : decode cX8_readHead 0 = .ok (.aload_n 0, 1) := by decide +kernel
theorem dX8_readHead_1 : decode cX8_readHead 1 = .ok (.getfield 89, 3) := by decide +kernel
theorem dX8_readHead_4 : decode cX8_readHead 4 = .ok (.ifCond .eq 14, 3) := by decide +kernel
theorem dX8_readHead_7 : decode cX8_readHead 7 = .ok (.aload_n 0, 1) := by decide +kernel
theorem dX8_readHead_8 : decode cX8_readHead 8 = .ok (.getfield 7, 3) := by decide +kernel
theorem dX8_readHead_11 : decode cX8_readHead 11 = .ok (.iconst 0, 1) := by decide +kernel
theorem dX8_readHead_12 : decode cX8_readHead 12 = .ok (.iaload, 1) := by decide +kernel
theorem dX8_readHead_13 : decode cX8_readHead 13 = .ok (.bipush 78, 2) := by decide +kernel
theorem dX8_readHead_15 : decode cX8_readHead 15 = .ok (.if_icmp .eq 5, 3) := by decide +kernel
theorem dX8_readHead_18 : decode cX8_readHead 18 = .ok (.iconst 0, 1) := by decide +kernel
theorem dX8_readHead_19 : decode cX8_readHead 19 = .ok (.ireturn, 1) := by decide +kernel
theorem dX8_readHead_20 : decode cX8_readHead 20 = .ok (.aload_n 0, 1) := by decide +kernel
theorem dX8_readHead_21 : decode cX8_readHead 21 = .ok (.iconst 1, 1) := by decide +kernel
theorem dX8_readHead_22 : decode cX8_readHead 22 = .ok (.putfield 92, 3) := by decide +kernel
theorem dX8_readHead_25 : decode cX8_readHead 25 = .ok (.aload_n 0, 1) := by decide +kernel
theorem dX8_readHead_26 : decode cX8_readHead 26 = .ok (.iconst 0, 1) := by decide +kernel
theorem dX8_readHead_27 : decode cX8_readHead 27 = .ok (.iconst 1, 1) := by decide +kernel
theorem dX8_readHead_28 : decode cX8_readHead 28 = .ok (.invokevirtual 95, 3) := by decide +kernel
theorem dX8_readHead_31 : decode cX8_readHead 31 = .ok (.ifCond .ne 5, 3) := by decide +kernel
theorem dX8_readHead_34 : decode cX8_readHead 34 = .ok (.iconst 0, 1) := by decide +kernel
theorem dX8_readHead_35 : decode cX8_readHead 35 = .ok (.ireturn, 1) := by decide +kernel
theorem dX8_readHead_36 : decode cX8_readHead 36 = .ok (.aload_n 0, 1) := by decide +kernel
theorem dX8_readHead_37 : decode cX8_readHead 37 = .ok (.iconst 1, 1) := by decide +kernel
theorem dX8_readHead_38 : decode cX8_readHead 38 = .ok (.invokevirtual 99, 3) := by decide +kernel
theorem dX8_readHead_41 : decode cX8_readHead 41 = .ok (.ifCond .ne 7, 3) := by decide +kernel
theorem dX8_readHead_44 : decode cX8_readHead 44 = .ok (.iconst 1, 1) := by decide +kernel
theorem dX8_readHead_45 : decode cX8_readHead 45 = .ok (.goto 4, 3) := by decide +kernel
theorem dX8_readHead_48 : decode cX8_readHead 48 = .ok (.iconst 0, 1) := by decide +kernel
theorem dX8_readHead_49 : decode cX8_readHead 49 = .ok (.istore_n 1, 1) := by decide +kernel
theorem dX8_readHead_50 : decode cX8_readHead 50 = .ok (.aload_n 0, 1) := by decide +kernel
theorem dX8_readHead_51 : decode cX8_readHead 51 = .ok (.iload_n 1, 1) := by decide +kernel
theorem dX8_readHead_52 : decode cX8_readHead 52 = .ok (.ifCond .eq 7, 3) := by decide +kernel
theorem dX8_readHead_55 : decode cX8_readHead 55 = .ok (.iconst 4, 1) := by decide +kernel
theorem dX8_readHead_56 : decode cX8_readHead 56 = .ok (.goto 4, 3) := by decide +kernel
theorem dX8_readHead_59 : decode cX8_readHead 59 = .ok (.iconst 0, 1) := by decide +kernel
theorem dX8_readHead_60 : decode cX8_readHead 60 = .ok (.iload_n 1, 1) := by decide +kernel
theorem dX8_readHead_61 : decode cX8_readHead 61 = .ok (.ifCond .eq 8, 3) := by decide +kernel
theorem dX8_readHead_64 : decode cX8_readHead 64 = .ok (.bipush 9, 2) := by decide +kernel
theorem dX8_readHead_66 : decode cX8_readHead 66 = .ok (.goto 5, 3) := by decide +kernel
theorem dX8_readHead_69 : decode cX8_readHead 69 = .ok (.bipush 6, 2) := by decide +kernel
theorem dX8_readHead_71 : decode cX8_readHead 71 = .ok (.invokevirtual 95, 3) := by decide +kernel
theorem dX8_readHead_74 : decode cX8_readHead 74 = .ok (.ifCond .ne 5, 3) := by decide +kernel
theorem dX8_readHead_77 : decode cX8_readHead 77 = .ok (.iconst 0, 1) := by decide +kernel
theorem dX8_readHead_78 : decode cX8_readHead 78 = .ok (.ireturn, 1) := by decide +kernel
theorem dX8_readHead_79 : decode cX8_readHead 79 = .ok (.aload_n 0, 1) := by decide +kernel
theorem dX8_readHead_80 : decode cX8_readHead 80 = .ok (.bipush 10, 2) := by decide +kernel
theorem dX8_readHead_82 : decode cX8_readHead 82 = .ok (.aload_n 0, 1) := by decide +kernel
theorem dX8_readHead_83 : decode cX8_readHead 83 = .ok (.iconst 2, 1) := by decide +kernel
theorem dX8_readHead_84 : decode cX8_readHead 84 = .ok (.invokevirtual 99, 3) := by decide +kernel
theorem dX8_readHead_87 : decode cX8_readHead 87 = .ok (.imul, 1) := by decide +kernel
theorem dX8_readHead_88 : decode cX8_readHead 88 = .ok (.aload_n 0, 1) := by decide +kernel
theorem dX8_readHead_89 : decode cX8_readHead 89 = .ok (.iconst 1, 1) := by decide +kernel
theorem dX8_readHead_90 : decode cX8_readHead 90 = .ok (.invokevirtual 99, 3) := by decide +kernel
theorem dX8_readHead_93 : decode cX8_readHead 93 = .ok (.iadd, 1) := by decide +kernel
theorem dX8_readHead_94 : decode cX8_readHead 94 = .ok (.putfield 103, 3) := by decide +kernel
theorem dX8_readHead_97 : decode cX8_readHead 97 = .ok (.aload_n 0, 1) := by decide +kernel
theorem dX8_readHead_98 : decode cX8_readHead 98 = .ok (.iconst 1, 1) := by decide +kernel
theorem dX8_readHead_99 : decode cX8_readHead 99 = .ok (.iconst 3, 1) := by decide +kernel
theorem dX8_readHead_100 : decode cX8_readHead 100 = .ok (.invokevirtual 95, 3) := by decide +kernel
theorem dX8_readHead_103 : decode cX8_readHead 103 = .ok (.ifCond .ne 5, 3) := by decide +kernel
theorem dX8_readHead_106 : decode cX8_readHead 106 = .ok (.iconst 0, 1) := by decide +kernel
theorem dX8_readHead_107 : decode cX8_readHead 107 = .ok (.ireturn, 1) := by decide +kernel
theorem dX8_readHead_108 : decode cX8_readHead 108 = .ok (.aload_n 0, 1) := by decide +kernel
theorem dX8_readHead_109 : decode cX8_readHead 109 = .ok (.aload_n 0, 1) := by decide +kernel
theorem dX8_readHead_110 : decode cX8_readHead 110 = .ok (.iconst 1, 1) := by decide +kernel
theorem dX8_readHead_111 : decode cX8_readHead 111 = .ok (.invokevirtual 99, 3) := by decide +kernel
theorem dX8_readHead_114 : decode cX8_readHead 114 = .ok (.putfield 106, 3) := by decide +kernel
theorem dX8_readHead_117 : decode cX8_readHead 117 = .ok (.iconst 1, 1) := by decide +kernel
theorem dX8_readHead_118 : decode cX8_readHead 118 = .ok (.ireturn, 1) := by decide +kernel
theorem dX8_readFamily_0 : decode cX8_readFamily 0 = .ok (.aload_n 0, 1) := by decide +kernel
theorem dX8_readFamily_1 : decode cX8_readFamily 1 = .ok (.getfield 109, 3) := by decide +kernel
theorem dX8_readFamily_4 : decode cX8_readFamily 4 = .ok (.iconst 3, 1) := by decide +kernel
theorem dX8_readFamily_5 : decode cX8_readFamily 5 = .ok (.if_icmp .ne 5, 3) := by decide +kernel
theorem dX8_readFamily_8 : decode cX8_readFamily 8 = .ok (.iconst 0, 1) := by decide +kernel
theorem dX8_readFamily_9 : decode cX8_readFamily 9 = .ok (.ireturn, 1) := by decide +kernel
theorem dX8_readFamily_10 : decode cX8_readFamily 10 = .ok (.aload_n 0, 1) := by decide +kernel
theorem dX8_readFamily_11 : decode cX8_readFamily 11 = .ok (.dup, 1) := by decide +kernel
theorem dX8_readFamily_12 : decode cX8_readFamily 12 = .ok (.getfield 92, 3) := by decide +kernel
theorem dX8_readFamily_15 : decode cX8_readFamily 15 = .ok (.iconst 1, 1) := by decide +kernel
theorem dX8_readFamily_16 : decode cX8_readFamily 16 = .ok (.iadd, 1) := by decide +kernel
theorem dX8_readFamily_17 : decode cX8_readFamily 17 = .ok (.putfield 92, 3) := by decide +kernel
theorem dX8_readFamily_20 : decode cX8_readFamily 20 = .ok (.aload_n 0, 1) := by decide +kernel
theorem dX8_readFamily_21 : decode cX8_readFamily 21 = .ok (.iconst 1, 1) := by decide +kernel
theorem dX8_readFamily_22 : decode cX8_readFamily 22 = .ok (.bipush 9, 2) := by decide +kernel
theorem dX8_readFamily_24 : decode cX8_readFamily 24 = .ok (.invokevirtual 95, 3) := by decide +kernel
theorem dX8_readFamily_27 : decode cX8_readFamily 27 = .ok (.ifCond .eq 13, 3) := by decide +kernel
theorem dX8_readFamily_30 : decode cX8_readFamily 30 = .ok (.aload_n 0, 1) := by decide +kernel
theorem dX8_readFamily_31 : decode cX8_readFamily 31 = .ok (.iconst 0, 1) := by decide +kernel
theorem dX8_readFamily_32 : decode cX8_readFamily 32 = .ok (.bipush 9, 2) := by decide +kernel
theorem dX8_readFamily_34 : decode cX8_readFamily 34 = .ok (.invokevirtual 95, 3) := by decide +kernel
theorem dX8_readFamily_37 : decode cX8_readFamily 37 = .ok (.ifCond .ne 5, 3) := by decide +kernel
theorem dX8_readFamily_40 : decode cX8_readFamily 40 = .ok (.iconst 0, 1) := by decide +kernel
theorem dX8_readFamily_41 : decode cX8_readFamily 41 = .ok (.ireturn, 1) := by decide +kernel
theorem dX8_readFamily_42 : decode cX8_readFamily 42 = .ok (.aload_n 0, 1) := by decide +kernel
theorem dX8_readFamily_43 : decode cX8_readFamily 43 = .ok (.getfield 32, 3) := by decide +kernel
theorem dX8_readFamily_46 : decode cX8_readFamily 46 = .ok (.aload_n 0, 1) := by decide +kernel
theorem dX8_readFamily_47 : decode cX8_readFamily 47 = .ok (.getfield 109, 3) := by decide +kernel
theorem dX8_readFamily_50 : decode cX8_readFamily 50 = .ok (.aload_n 0, 1) := by decide +kernel
theorem dX8_readFamily_51 : decode cX8_readFamily 51 = .ok (.iconst 2, 1) := by decide +kernel
theorem dX8_readFamily_52 : decode cX8_readFamily 52 = .ok (.invokevirtual 99, 3) := by decide +kernel
theorem dX8_readFamily_55 : decode cX8_readFamily 55 = .ok (.iastore, 1) := by decide +kernel
theorem dX8_readFamily_56 : decode cX8_readFamily 56 = .ok (.aload_n 0, 1) := by decide +kernel
theorem dX8_readFamily_57 : decode cX8_readFamily 57 = .ok (.getfield 35, 3) := by decide +kernel
theorem dX8_readFamily_60 : decode cX8_readFamily 60 = .ok (.aload_n 0, 1) := by decide +kernel
theorem dX8_readFamily_61 : decode cX8_readFamily 61 = .ok (.getfield 109, 3) := by decide +kernel
theorem dX8_readFamily_64 : decode cX8_readFamily 64 = .ok (.aload_n 0, 1) := by decide +kernel
theorem dX8_readFamily_65 : decode cX8_readFamily 65 = .ok (.iconst 1, 1) := by decide +kernel
theorem dX8_readFamily_66 : decode cX8_readFamily 66 = .ok (.invokevirtual 99, 3) := by decide +kernel
theorem dX8_readFamily_69 : decode cX8_readFamily 69 = .ok (.iastore, 1) := by decide +kernel
theorem dX8_readFamily_70 : decode cX8_readFamily 70 = .ok (.aload_n 0, 1) := by decide +kernel
theorem dX8_readFamily_71 : decode cX8_readFamily 71 = .ok (.dup, 1) := by decide +kernel
theorem dX8_readFamily_72 : decode cX8_readFamily 72 = .ok (.getfield 109, 3) := by decide +kernel
theorem dX8_readFamily_75 : decode cX8_readFamily 75 = .ok (.iconst 1, 1) := by decide +kernel
theorem dX8_readFamily_76 : decode cX8_readFamily 76 = .ok (.iadd, 1) := by decide +kernel
theorem dX8_readFamily_77 : decode cX8_readFamily 77 = .ok (.putfield 109, 3) := by decide +kernel
theorem dX8_readFamily_80 : decode cX8_readFamily 80 = .ok (.iconst 1, 1) := by decide +kernel
theorem dX8_readFamily_81 : decode cX8_readFamily 81 = .ok (.ireturn, 1) := by decide +kernel
theorem dX8_readProxy_0 : decode cX8_readProxy 0 = .ok (.aload_n 0, 1) := by decide +kernel
theorem dX8_readProxy_1 : decode cX8_readProxy 1 = .ok (.getfield 112, 3) := by decide +kernel
theorem dX8_readProxy_4 : decode cX8_readProxy 4 = .ok (.iconst 4, 1) := by decide +kernel
theorem dX8_readProxy_5 : decode cX8_readProxy 5 = .ok (.if_icmp .ne 5, 3) := by decide +kernel
theorem dX8_readProxy_8 : decode cX8_readProxy 8 = .ok (.iconst 0, 1) := by decide +kernel
theorem dX8_readProxy_9 : decode cX8_readProxy 9 = .ok (.ireturn, 1) := by decide +kernel
theorem dX8_readProxy_10 : decode cX8_readProxy 10 = .ok (.aload_n 0, 1) := by decide +kernel
theorem dX8_readProxy_11 : decode cX8_readProxy 11 = .ok (.dup, 1) := by decide +kernel
theorem dX8_readProxy_12 : decode cX8_readProxy 12 = .ok (.getfield 92, 3) := by decide +kernel
theorem dX8_readProxy_15 : decode cX8_readProxy 15 = .ok (.iconst 1, 1) := by decide +kernel
theorem dX8_readProxy_16 : decode cX8_readProxy 16 = .ok (.iadd, 1) := by decide +kernel
theorem dX8_readProxy_17 : decode cX8_readProxy 17 = .ok (.putfield 92, 3) := by decide +kernel
theorem dX8_readProxy_20 : decode cX8_readProxy 20 = .ok (.aload_n 0, 1) := by decide +kernel
theorem dX8_readProxy_21 : decode cX8_readProxy 21 = .ok (.iconst 1, 1) := by decide +kernel
theorem dX8_readProxy_22 : decode cX8_readProxy 22 = .ok (.bipush 9, 2) := by decide +kernel
theorem dX8_readProxy_24 : decode cX8_readProxy 24 = .ok (.invokevirtual 95, 3) := by decide +kernel
theorem dX8_readProxy_27 : decode cX8_readProxy 27 = .ok (.ifCond .eq 13, 3) := by decide +kernel
theorem dX8_readProxy_30 : decode cX8_readProxy 30 = .ok (.aload_n 0, 1) := by decide +kernel
theorem dX8_readProxy_31 : decode cX8_readProxy 31 = .ok (.iconst 1, 1) := by decide +kernel
theorem dX8_readProxy_32 : decode cX8_readProxy 32 = .ok (.bipush 9, 2) := by decide +kernel
theorem dX8_readProxy_34 : decode cX8_readProxy 34 = .ok (.invokevirtual 95, 3) := by decide +kernel
theorem dX8_readProxy_37 : decode cX8_readProxy 37 = .ok (.ifCond .ne 5, 3) := by decide +kernel
theorem dX8_readProxy_40 : decode cX8_readProxy 40 = .ok (.iconst 0, 1) := by decide +kernel
theorem dX8_readProxy_41 : decode cX8_readProxy 41 = .ok (.ireturn, 1) := by decide +kernel
theorem dX8_readProxy_42 : decode cX8_readProxy 42 = .ok (.aload_n 0, 1) := by decide +kernel
theorem dX8_readProxy_43 : decode cX8_readProxy 43 = .ok (.getfield 38, 3) := by decide +kernel
theorem dX8_readProxy_46 : decode cX8_readProxy 46 = .ok (.aload_n 0, 1) := by decide +kernel
theorem dX8_readProxy_47 : decode cX8_readProxy 47 = .ok (.getfield 112, 3) := by decide +kernel
theorem dX8_readProxy_50 : decode cX8_readProxy 50 = .ok (.aload_n 0, 1) := by decide +kernel
theorem dX8_readProxy_51 : decode cX8_readProxy 51 = .ok (.iconst 2, 1) := by decide +kernel
theorem dX8_readProxy_52 : decode cX8_readProxy 52 = .ok (.invokevirtual 99, 3) := by decide +kernel
theorem dX8_readProxy_55 : decode cX8_readProxy 55 = .ok (.iastore, 1) := by decide +kernel
theorem dX8_readProxy_56 : decode cX8_readProxy 56 = .ok (.aload_n 0, 1) := by decide +kernel
theorem dX8_readProxy_57 : decode cX8_readProxy 57 = .ok (.getfield 41, 3) := by decide +kernel
theorem dX8_readProxy_60 : decode cX8_readProxy 60 = .ok (.bipush 29, 2) := by decide +kernel
theorem dX8_readProxy_62 : decode cX8_readProxy 62 = .ok (.aload_n 0, 1) := by decide +kernel
theorem dX8_readProxy_63 : decode cX8_readProxy 63 = .ok (.getfield 112, 3) := by decide +kernel
theorem dX8_readProxy_66 : decode cX8_readProxy 66 = .ok (.imul, 1) := by decide +kernel
theorem dX8_readProxy_67 : decode cX8_readProxy 67 = .ok (.bipush 28, 2) := by decide +kernel
theorem dX8_readProxy_69 : decode cX8_readProxy 69 = .ok (.iadd, 1) := by decide +kernel
theorem dX8_readProxy_70 : decode cX8_readProxy 70 = .ok (.aload_n 0, 1) := by decide +kernel
theorem dX8_readProxy_71 : decode cX8_readProxy 71 = .ok (.iconst 1, 1) := by decide +kernel
theorem dX8_readProxy_72 : decode cX8_readProxy 72 = .ok (.invokevirtual 99, 3) := by decide +kernel
theorem dX8_readProxy_75 : decode cX8_readProxy 75 = .ok (.iastore, 1) := by decide +kernel
theorem dX8_readProxy_76 : decode cX8_readProxy 76 = .ok (.aload_n 0, 1) := by decide +kernel
theorem dX8_readProxy_77 : decode cX8_readProxy 77 = .ok (.dup, 1) := by decide +kernel
theorem dX8_readProxy_78 : decode cX8_readProxy 78 = .ok (.getfield 112, 3) := by decide +kernel
theorem dX8_readProxy_81 : decode cX8_readProxy 81 = .ok (.iconst 1, 1) := by decide +kernel
theorem dX8_readProxy_82 : decode cX8_readProxy 82 = .ok (.iadd, 1) := by decide +kernel
theorem dX8_readProxy_83 : decode cX8_readProxy 83 = .ok (.putfield 112, 3) := by decide +kernel
theorem dX8_readProxy_86 : decode cX8_readProxy 86 = .ok (.iconst 1, 1) := by decide +kernel
theorem dX8_readProxy_87 : decode cX8_readProxy 87 = .ok (.ireturn, 1) := by decide +kernel
theorem dX8_hasRoom_0 : decode cX8_hasRoom 0 = .ok (.aload_n 0, 1) := by decide +kernel
theorem dX8_hasRoom_1 : decode cX8_hasRoom 1 = .ok (.getfield 41, 3) := by decide +kernel
theorem dX8_hasRoom_4 : decode cX8_hasRoom 4 = .ok (.bipush 29, 2) := by decide +kernel
theorem dX8_hasRoom_6 : decode cX8_hasRoom 6 = .ok (.iload_n 1, 1) := by decide +kernel
theorem dX8_hasRoom_7 : decode cX8_hasRoom 7 = .ok (.imul, 1) := by decide +kernel
theorem dX8_hasRoom_8 : decode cX8_hasRoom 8 = .ok (.bipush 9, 2) := by decide +kernel
theorem dX8_hasRoom_10 : decode cX8_hasRoom 10 = .ok (.iadd, 1) := by decide +kernel
theorem dX8_hasRoom_11 : decode cX8_hasRoom 11 = .ok (.iaload, 1) := by decide +kernel
theorem dX8_hasRoom_12 : decode cX8_hasRoom 12 = .ok (.aload_n 0, 1) := by decide +kernel
theorem dX8_hasRoom_13 : decode cX8_hasRoom 13 = .ok (.getfield 38, 3) := by decide +kernel
theorem dX8_hasRoom_16 : decode cX8_hasRoom 16 = .ok (.iload_n 1, 1) := by decide +kernel
theorem dX8_hasRoom_17 : decode cX8_hasRoom 17 = .ok (.iaload, 1) := by decide +kernel
theorem dX8_hasRoom_18 : decode cX8_hasRoom 18 = .ok (.if_icmp .ge 7, 3) := by decide +kernel
theorem dX8_hasRoom_21 : decode cX8_hasRoom 21 = .ok (.iconst 1, 1) := by decide +kernel
theorem dX8_hasRoom_22 : decode cX8_hasRoom 22 = .ok (.goto 4, 3) := by decide +kernel
theorem dX8_hasRoom_25 : decode cX8_hasRoom 25 = .ok (.iconst 0, 1) := by decide +kernel
theorem dX8_hasRoom_26 : decode cX8_hasRoom 26 = .ok (.ireturn, 1) := by decide +kernel
theorem dX8_mayCome_0 : decode cX8_mayCome 0 = .ok (.iconst 0, 1) := by decide +kernel
theorem dX8_mayCome_1 : decode cX8_mayCome 1 = .ok (.istore 4, 2) := by decide +kernel
theorem dX8_mayCome_3 : decode cX8_mayCome 3 = .ok (.iconst 0, 1) := by decide +kernel
theorem dX8_mayCome_4 : decode cX8_mayCome 4 = .ok (.istore 5, 2) := by decide +kernel
theorem dX8_mayCome_6 : decode cX8_mayCome 6 = .ok (.iload 5, 2) := by decide +kernel
theorem dX8_mayCome_8 : decode cX8_mayCome 8 = .ok (.bipush 10, 2) := by decide +kernel
theorem dX8_mayCome_10 : decode cX8_mayCome 10 = .ok (.if_icmp .ge 64, 3) := by decide +kernel
theorem dX8_mayCome_13 : decode cX8_mayCome 13 = .ok (.bipush 10, 2) := by decide +kernel
theorem dX8_mayCome_15 : decode cX8_mayCome 15 = .ok (.iload_n 2, 1) := by decide +kernel
theorem dX8_mayCome_16 : decode cX8_mayCome 16 = .ok (.imul, 1) := by decide +kernel
theorem dX8_mayCome_17 : decode cX8_mayCome 17 = .ok (.iload 5, 2) := by decide +kernel
theorem dX8_mayCome_19 : decode cX8_mayCome 19 = .ok (.iadd, 1) := by decide +kernel
theorem dX8_mayCome_20 : decode cX8_mayCome 20 = .ok (.istore 6, 2) := by decide +kernel
theorem dX8_mayCome_22 : decode cX8_mayCome 22 = .ok (.iload 4, 2) := by decide +kernel
theorem dX8_mayCome_24 : decode cX8_mayCome 24 = .ok (.ifCond .ne 37, 3) := by decide +kernel
theorem dX8_mayCome_27 : decode cX8_mayCome 27 = .ok (.iload_n 3, 1) := by decide +kernel
theorem dX8_mayCome_28 : decode cX8_mayCome 28 = .ok (.bipush (-9), 2) := by decide +kernel
theorem dX8_mayCome_30 : decode cX8_mayCome 30 = .ok (.if_icmp .eq 9, 3) := by decide +kernel
theorem dX8_mayCome_33 : decode cX8_mayCome 33 = .ok (.iload_n 3, 1) := by decide +kernel
theorem dX8_mayCome_34 : decode cX8_mayCome 34 = .ok (.iload 5, 2) := by decide +kernel
theorem dX8_mayCome_36 : decode cX8_mayCome 36 = .ok (.if_icmp .ne 29, 3) := by decide +kernel
theorem dX8_mayCome_39 : decode cX8_mayCome 39 = .ok (.iload 6, 2) := by decide +kernel
theorem dX8_mayCome_41 : decode cX8_mayCome 41 = .ok (.bipush 32, 2) := by decide +kernel
theorem dX8_mayCome_43 : decode cX8_mayCome 43 = .ok (.if_icmp .ge 22, 3) := by decide +kernel
theorem dX8_mayCome_46 : decode cX8_mayCome 46 = .ok (.aload_n 0, 1) := by decide +kernel
theorem dX8_mayCome_47 : decode cX8_mayCome 47 = .ok (.getfield 41, 3) := by decide +kernel
theorem dX8_mayCome_50 : decode cX8_mayCome 50 = .ok (.iload_n 1, 1) := by decide +kernel
theorem dX8_mayCome_51 : decode cX8_mayCome 51 = .ok (.iload 6, 2) := by decide +kernel
theorem dX8_mayCome_53 : decode cX8_mayCome 53 = .ok (.invokestatic 115, 3) := by decide +kernel
theorem dX8_mayCome_56 : decode cX8_mayCome 56 = .ok (.bipush (-9), 2) := by decide +kernel
theorem dX8_mayCome_58 : decode cX8_mayCome 58 = .ok (.if_icmp .ne 7, 3) := by decide +kernel
theorem dX8_mayCome_61 : decode cX8_mayCome 61 = .ok (.iconst 1, 1) := by decide +kernel
theorem dX8_mayCome_62 : decode cX8_mayCome 62 = .ok (.goto 4, 3) := by decide +kernel
theorem dX8_mayCome_65 : decode cX8_mayCome 65 = .ok (.iconst 0, 1) := by decide +kernel
theorem dX8_mayCome_66 : decode cX8_mayCome 66 = .ok (.istore 4, 2) := by decide +kernel
theorem dX8_mayCome_68 : decode cX8_mayCome 68 = .ok (.iinc 5 1, 3) := by decide +kernel
theorem dX8_mayCome_71 : decode cX8_mayCome 71 = .ok (.goto (-65), 3) := by decide +kernel
theorem dX8_mayCome_74 : decode cX8_mayCome 74 = .ok (.iload 4, 2) := by decide +kernel
theorem dX8_mayCome_76 : decode cX8_mayCome 76 = .ok (.ireturn, 1) := by decide +kernel
theorem dX8_readShelf_0 : decode cX8_readShelf 0 = .ok (.iconst 0, 1) := by decide +kernel
theorem dX8_readShelf_1 : decode cX8_readShelf 1 = .ok (.istore_n 1, 1) := by decide +kernel
theorem dX8_readShelf_2 : decode cX8_readShelf 2 = .ok (.iconst 0, 1) := by decide +kernel
theorem dX8_readShelf_3 : decode cX8_readShelf 3 = .ok (.istore_n 2, 1) := by decide +kernel
theorem dX8_readShelf_4 : decode cX8_readShelf 4 = .ok (.iload_n 2, 1) := by decide +kernel
theorem dX8_readShelf_5 : decode cX8_readShelf 5 = .ok (.aload_n 0, 1) := by decide +kernel
theorem dX8_readShelf_6 : decode cX8_readShelf 6 = .ok (.getfield 112, 3) := by decide +kernel
theorem dX8_readShelf_9 : decode cX8_readShelf 9 = .ok (.if_icmp .ge 27, 3) := by decide +kernel
theorem dX8_readShelf_12 : decode cX8_readShelf 12 = .ok (.iload_n 1, 1) := by decide +kernel
theorem dX8_readShelf_13 : decode cX8_readShelf 13 = .ok (.ifCond .ne 11, 3) := by decide +kernel
theorem dX8_readShelf_16 : decode cX8_readShelf 16 = .ok (.aload_n 0, 1) := by decide +kernel
theorem dX8_readShelf_17 : decode cX8_readShelf 17 = .ok (.iload_n 2, 1) := by decide +kernel
theorem dX8_readShelf_18 : decode cX8_readShelf 18 = .ok (.invokevirtual 119, 3) := by decide +kernel
theorem dX8_readShelf_21 : decode cX8_readShelf 21 = .ok (.ifCond .eq 7, 3) := by decide +kernel
theorem dX8_readShelf_24 : decode cX8_readShelf 24 = .ok (.iconst 1, 1) := by decide +kernel
theorem dX8_readShelf_25 : decode cX8_readShelf 25 = .ok (.goto 4, 3) := by decide +kernel
theorem dX8_readShelf_28 : decode cX8_readShelf 28 = .ok (.iconst 0, 1) := by decide +kernel
theorem dX8_readShelf_29 : decode cX8_readShelf 29 = .ok (.istore_n 1, 1) := by decide +kernel
theorem dX8_readShelf_30 : decode cX8_readShelf 30 = .ok (.iinc 2 1, 3) := by decide +kernel
theorem dX8_readShelf_33 : decode cX8_readShelf 33 = .ok (.goto (-29), 3) := by decide +kernel
theorem dX8_readShelf_36 : decode cX8_readShelf 36 = .ok (.iload_n 1, 1) := by decide +kernel
theorem dX8_readShelf_37 : decode cX8_readShelf 37 = .ok (.ifCond .ne 5, 3) := by decide +kernel
theorem dX8_readShelf_40 : decode cX8_readShelf 40 = .ok (.iconst 0, 1) := by decide +kernel
theorem dX8_readShelf_41 : decode cX8_readShelf 41 = .ok (.ireturn, 1) := by decide +kernel
theorem dX8_readShelf_42 : decode cX8_readShelf 42 = .ok (.aload_n 0, 1) := by decide +kernel
theorem dX8_readShelf_43 : decode cX8_readShelf 43 = .ok (.dup, 1) := by decide +kernel
theorem dX8_readShelf_44 : decode cX8_readShelf 44 = .ok (.getfield 92, 3) := by decide +kernel
theorem dX8_readShelf_47 : decode cX8_readShelf 47 = .ok (.iconst 1, 1) := by decide +kernel
theorem dX8_readShelf_48 : decode cX8_readShelf 48 = .ok (.iadd, 1) := by decide +kernel
theorem dX8_readShelf_49 : decode cX8_readShelf 49 = .ok (.putfield 92, 3) := by decide +kernel
theorem dX8_readShelf_52 : decode cX8_readShelf 52 = .ok (.aload_n 0, 1) := by decide +kernel
theorem dX8_readShelf_53 : decode cX8_readShelf 53 = .ok (.getfield 92, 3) := by decide +kernel
theorem dX8_readShelf_56 : decode cX8_readShelf 56 = .ok (.aload_n 0, 1) := by decide +kernel
theorem dX8_readShelf_57 : decode cX8_readShelf 57 = .ok (.getfield 89, 3) := by decide +kernel
theorem dX8_readShelf_60 : decode cX8_readShelf 60 = .ok (.if_icmp .eq 49, 3) := by decide +kernel
theorem dX8_readShelf_63 : decode cX8_readShelf 63 = .ok (.aload_n 0, 1) := by decide +kernel
theorem dX8_readShelf_64 : decode cX8_readShelf 64 = .ok (.getfield 7, 3) := by decide +kernel
theorem dX8_readShelf_67 : decode cX8_readShelf 67 = .ok (.aload_n 0, 1) := by decide +kernel
theorem dX8_readShelf_68 : decode cX8_readShelf 68 = .ok (.getfield 92, 3) := by decide +kernel
theorem dX8_readShelf_71 : decode cX8_readShelf 71 = .ok (.iaload, 1) := by decide +kernel
theorem dX8_readShelf_72 : decode cX8_readShelf 72 = .ok (.bipush 48, 2) := by decide +kernel
theorem dX8_readShelf_74 : decode cX8_readShelf 74 = .ok (.isub, 1) := by decide +kernel
theorem dX8_readShelf_75 : decode cX8_readShelf 75 = .ok (.i2l, 1) := by decide +kernel
theorem dX8_readShelf_76 : decode cX8_readShelf 76 = .ok (.lconst 0, 1) := by decide +kernel
theorem dX8_readShelf_77 : decode cX8_readShelf 77 = .ok (.aload_n 0, 1) := by decide +kernel
theorem dX8_readShelf_78 : decode cX8_readShelf 78 = .ok (.getfield 112, 3) := by decide +kernel
theorem dX8_readShelf_81 : decode cX8_readShelf 81 = .ok (.iconst 1, 1) := by decide +kernel
theorem dX8_readShelf_82 : decode cX8_readShelf 82 = .ok (.isub, 1) := by decide +kernel
theorem dX8_readShelf_83 : decode cX8_readShelf 83 = .ok (.i2l, 1) := by decide +kernel
theorem dX8_readShelf_84 : decode cX8_readShelf 84 = .ok (.invokestatic 81, 3) := by decide +kernel
theorem dX8_readShelf_87 : decode cX8_readShelf 87 = .ok (.ifCond .eq 22, 3) := by decide +kernel
theorem dX8_readShelf_90 : decode cX8_readShelf 90 = .ok (.aload_n 0, 1) := by decide +kernel
theorem dX8_readShelf_91 : decode cX8_readShelf 91 = .ok (.aload_n 0, 1) := by decide +kernel
theorem dX8_readShelf_92 : decode cX8_readShelf 92 = .ok (.getfield 7, 3) := by decide +kernel
theorem dX8_readShelf_95 : decode cX8_readShelf 95 = .ok (.aload_n 0, 1) := by decide +kernel
theorem dX8_readShelf_96 : decode cX8_readShelf 96 = .ok (.getfield 92, 3) := by decide +kernel
theorem dX8_readShelf_99 : decode cX8_readShelf 99 = .ok (.iaload, 1) := by decide +kernel
theorem dX8_readShelf_100 : decode cX8_readShelf 100 = .ok (.bipush 48, 2) := by decide +kernel
theorem dX8_readShelf_102 : decode cX8_readShelf 102 = .ok (.isub, 1) := by decide +kernel
theorem dX8_readShelf_103 : decode cX8_readShelf 103 = .ok (.invokevirtual 119, 3) := by decide +kernel
theorem dX8_readShelf_106 : decode cX8_readShelf 106 = .ok (.ifCond .ne 5, 3) := by decide +kernel
theorem dX8_readShelf_109 : decode cX8_readShelf 109 = .ok (.iconst 0, 1) := by decide +kernel
theorem dX8_readShelf_110 : decode cX8_readShelf 110 = .ok (.ireturn, 1) := by decide +kernel
theorem dX8_readShelf_111 : decode cX8_readShelf 111 = .ok (.aload_n 0, 1) := by decide +kernel
theorem dX8_readShelf_112 : decode cX8_readShelf 112 = .ok (.getfield 7, 3) := by decide +kernel
theorem dX8_readShelf_115 : decode cX8_readShelf 115 = .ok (.aload_n 0, 1) := by decide +kernel
theorem dX8_readShelf_116 : decode cX8_readShelf 116 = .ok (.getfield 92, 3) := by decide +kernel
theorem dX8_readShelf_119 : decode cX8_readShelf 119 = .ok (.iaload, 1) := by decide +kernel
theorem dX8_readShelf_120 : decode cX8_readShelf 120 = .ok (.bipush 48, 2) := by decide +kernel
theorem dX8_readShelf_122 : decode cX8_readShelf 122 = .ok (.isub, 1) := by decide +kernel
theorem dX8_readShelf_123 : decode cX8_readShelf 123 = .ok (.istore_n 2, 1) := by decide +kernel
theorem dX8_readShelf_124 : decode cX8_readShelf 124 = .ok (.aload_n 0, 1) := by decide +kernel
theorem dX8_readShelf_125 : decode cX8_readShelf 125 = .ok (.dup, 1) := by decide +kernel
theorem dX8_readShelf_126 : decode cX8_readShelf 126 = .ok (.getfield 92, 3) := by decide +kernel
theorem dX8_readShelf_129 : decode cX8_readShelf 129 = .ok (.iconst 1, 1) := by decide +kernel
theorem dX8_readShelf_130 : decode cX8_readShelf 130 = .ok (.iadd, 1) := by decide +kernel
theorem dX8_readShelf_131 : decode cX8_readShelf 131 = .ok (.putfield 92, 3) := by decide +kernel
theorem dX8_readShelf_134 : decode cX8_readShelf 134 = .ok (.aload_n 0, 1) := by decide +kernel
theorem dX8_readShelf_135 : decode cX8_readShelf 135 = .ok (.getfield 92, 3) := by decide +kernel
theorem dX8_readShelf_138 : decode cX8_readShelf 138 = .ok (.aload_n 0, 1) := by decide +kernel
theorem dX8_readShelf_139 : decode cX8_readShelf 139 = .ok (.getfield 89, 3) := by decide +kernel
theorem dX8_readShelf_142 : decode cX8_readShelf 142 = .ok (.if_icmp .eq 48, 3) := by decide +kernel
theorem dX8_readShelf_145 : decode cX8_readShelf 145 = .ok (.aload_n 0, 1) := by decide +kernel
theorem dX8_readShelf_146 : decode cX8_readShelf 146 = .ok (.getfield 7, 3) := by decide +kernel
theorem dX8_readShelf_149 : decode cX8_readShelf 149 = .ok (.aload_n 0, 1) := by decide +kernel
theorem dX8_readShelf_150 : decode cX8_readShelf 150 = .ok (.getfield 92, 3) := by decide +kernel
theorem dX8_readShelf_153 : decode cX8_readShelf 153 = .ok (.iaload, 1) := by decide +kernel
theorem dX8_readShelf_154 : decode cX8_readShelf 154 = .ok (.bipush 48, 2) := by decide +kernel
theorem dX8_readShelf_156 : decode cX8_readShelf 156 = .ok (.isub, 1) := by decide +kernel
theorem dX8_readShelf_157 : decode cX8_readShelf 157 = .ok (.i2l, 1) := by decide +kernel
theorem dX8_readShelf_158 : decode cX8_readShelf 158 = .ok (.lconst 0, 1) := by decide +kernel
theorem dX8_readShelf_159 : decode cX8_readShelf 159 = .ok (.ldc2_w 123, 3) := by decide +kernel
theorem dX8_readShelf_162 : decode cX8_readShelf 162 = .ok (.invokestatic 81, 3) := by decide +kernel
theorem dX8_readShelf_165 : decode cX8_readShelf 165 = .ok (.ifCond .eq 25, 3) := by decide +kernel
theorem dX8_readShelf_168 : decode cX8_readShelf 168 = .ok (.aload_n 0, 1) := by decide +kernel
theorem dX8_readShelf_169 : decode cX8_readShelf 169 = .ok (.iload_n 2, 1) := by decide +kernel
theorem dX8_readShelf_170 : decode cX8_readShelf 170 = .ok (.aload_n 0, 1) := by decide +kernel
theorem dX8_readShelf_171 : decode cX8_readShelf 171 = .ok (.getfield 7, 3) := by decide +kernel
theorem dX8_readShelf_174 : decode cX8_readShelf 174 = .ok (.aload_n 0, 1) := by decide +kernel
theorem dX8_readShelf_175 : decode cX8_readShelf 175 = .ok (.getfield 92, 3) := by decide +kernel
theorem dX8_readShelf_178 : decode cX8_readShelf 178 = .ok (.iaload, 1) := by decide +kernel
theorem dX8_readShelf_179 : decode cX8_readShelf 179 = .ok (.bipush 48, 2) := by decide +kernel
theorem dX8_readShelf_181 : decode cX8_readShelf 181 = .ok (.isub, 1) := by decide +kernel
theorem dX8_readShelf_182 : decode cX8_readShelf 182 = .ok (.bipush (-9), 2) := by decide +kernel
theorem dX8_readShelf_184 : decode cX8_readShelf 184 = .ok (.invokevirtual 125, 3) := by decide +kernel
theorem dX8_readShelf_187 : decode cX8_readShelf 187 = .ok (.ifCond .ne 5, 3) := by decide +kernel
theorem dX8_readShelf_190 : decode cX8_readShelf 190 = .ok (.iconst 0, 1) := by decide +kernel
theorem dX8_readShelf_191 : decode cX8_readShelf 191 = .ok (.ireturn, 1) := by decide +kernel
theorem dX8_readShelf_192 : decode cX8_readShelf 192 = .ok (.aload_n 0, 1) := by decide +kernel
theorem dX8_readShelf_193 : decode cX8_readShelf 193 = .ok (.getfield 7, 3) := by decide +kernel
theorem dX8_readShelf_196 : decode cX8_readShelf 196 = .ok (.aload_n 0, 1) := by decide +kernel
theorem dX8_readShelf_197 : decode cX8_readShelf 197 = .ok (.getfield 92, 3) := by decide +kernel
theorem dX8_readShelf_200 : decode cX8_readShelf 200 = .ok (.iaload, 1) := by decide +kernel
theorem dX8_readShelf_201 : decode cX8_readShelf 201 = .ok (.bipush 48, 2) := by decide +kernel
theorem dX8_readShelf_203 : decode cX8_readShelf 203 = .ok (.isub, 1) := by decide +kernel
theorem dX8_readShelf_204 : decode cX8_readShelf 204 = .ok (.istore_n 3, 1) := by decide +kernel
theorem dX8_readShelf_205 : decode cX8_readShelf 205 = .ok (.aload_n 0, 1) := by decide +kernel
theorem dX8_readShelf_206 : decode cX8_readShelf 206 = .ok (.dup, 1) := by decide +kernel
theorem dX8_readShelf_207 : decode cX8_readShelf 207 = .ok (.getfield 92, 3) := by decide +kernel
theorem dX8_readShelf_210 : decode cX8_readShelf 210 = .ok (.iconst 1, 1) := by decide +kernel
theorem dX8_readShelf_211 : decode cX8_readShelf 211 = .ok (.iadd, 1) := by decide +kernel
theorem dX8_readShelf_212 : decode cX8_readShelf 212 = .ok (.putfield 92, 3) := by decide +kernel
theorem dX8_readShelf_215 : decode cX8_readShelf 215 = .ok (.aload_n 0, 1) := by decide +kernel
theorem dX8_readShelf_216 : decode cX8_readShelf 216 = .ok (.getfield 92, 3) := by decide +kernel
theorem dX8_readShelf_219 : decode cX8_readShelf 219 = .ok (.aload_n 0, 1) := by decide +kernel
theorem dX8_readShelf_220 : decode cX8_readShelf 220 = .ok (.getfield 89, 3) := by decide +kernel
theorem dX8_readShelf_223 : decode cX8_readShelf 223 = .ok (.if_icmp .eq 47, 3) := by decide +kernel
theorem dX8_readShelf_226 : decode cX8_readShelf 226 = .ok (.aload_n 0, 1) := by decide +kernel
theorem dX8_readShelf_227 : decode cX8_readShelf 227 = .ok (.getfield 7, 3) := by decide +kernel
theorem dX8_readShelf_230 : decode cX8_readShelf 230 = .ok (.aload_n 0, 1) := by decide +kernel
theorem dX8_readShelf_231 : decode cX8_readShelf 231 = .ok (.getfield 92, 3) := by decide +kernel
theorem dX8_readShelf_234 : decode cX8_readShelf 234 = .ok (.iaload, 1) := by decide +kernel
theorem dX8_readShelf_235 : decode cX8_readShelf 235 = .ok (.bipush 48, 2) := by decide +kernel
theorem dX8_readShelf_237 : decode cX8_readShelf 237 = .ok (.isub, 1) := by decide +kernel
theorem dX8_readShelf_238 : decode cX8_readShelf 238 = .ok (.i2l, 1) := by decide +kernel
theorem dX8_readShelf_239 : decode cX8_readShelf 239 = .ok (.lconst 0, 1) := by decide +kernel
theorem dX8_readShelf_240 : decode cX8_readShelf 240 = .ok (.ldc2_w 129, 3) := by decide +kernel
theorem dX8_readShelf_243 : decode cX8_readShelf 243 = .ok (.invokestatic 81, 3) := by decide +kernel
theorem dX8_readShelf_246 : decode cX8_readShelf 246 = .ok (.ifCond .eq 24, 3) := by decide +kernel
theorem dX8_readShelf_249 : decode cX8_readShelf 249 = .ok (.aload_n 0, 1) := by decide +kernel
theorem dX8_readShelf_250 : decode cX8_readShelf 250 = .ok (.iload_n 2, 1) := by decide +kernel
theorem dX8_readShelf_251 : decode cX8_readShelf 251 = .ok (.iload_n 3, 1) := by decide +kernel
theorem dX8_readShelf_252 : decode cX8_readShelf 252 = .ok (.aload_n 0, 1) := by decide +kernel
theorem dX8_readShelf_253 : decode cX8_readShelf 253 = .ok (.getfield 7, 3) := by decide +kernel
theorem dX8_readShelf_256 : decode cX8_readShelf 256 = .ok (.aload_n 0, 1) := by decide +kernel
theorem dX8_readShelf_257 : decode cX8_readShelf 257 = .ok (.getfield 92, 3) := by decide +kernel
theorem dX8_readShelf_260 : decode cX8_readShelf 260 = .ok (.iaload, 1) := by decide +kernel
theorem dX8_readShelf_261 : decode cX8_readShelf 261 = .ok (.bipush 48, 2) := by decide +kernel
theorem dX8_readShelf_263 : decode cX8_readShelf 263 = .ok (.isub, 1) := by decide +kernel
theorem dX8_readShelf_264 : decode cX8_readShelf 264 = .ok (.invokevirtual 125, 3) := by decide +kernel
theorem dX8_readShelf_267 : decode cX8_readShelf 267 = .ok (.ifCond .ne 5, 3) := by decide +kernel
theorem dX8_readShelf_270 : decode cX8_readShelf 270 = .ok (.iconst 0, 1) := by decide +kernel
theorem dX8_readShelf_271 : decode cX8_readShelf 271 = .ok (.ireturn, 1) := by decide +kernel
theorem dX8_readShelf_272 : decode cX8_readShelf 272 = .ok (.aload_n 0, 1) := by decide +kernel
theorem dX8_readShelf_273 : decode cX8_readShelf 273 = .ok (.getfield 41, 3) := by decide +kernel
theorem dX8_readShelf_276 : decode cX8_readShelf 276 = .ok (.bipush 29, 2) := by decide +kernel
theorem dX8_readShelf_278 : decode cX8_readShelf 278 = .ok (.iload_n 2, 1) := by decide +kernel
theorem dX8_readShelf_279 : decode cX8_readShelf 279 = .ok (.imul, 1) := by decide +kernel
theorem dX8_readShelf_280 : decode cX8_readShelf 280 = .ok (.aload_n 0, 1) := by decide +kernel
theorem dX8_readShelf_281 : decode cX8_readShelf 281 = .ok (.getfield 41, 3) := by decide +kernel
theorem dX8_readShelf_284 : decode cX8_readShelf 284 = .ok (.bipush 29, 2) := by decide +kernel
theorem dX8_readShelf_286 : decode cX8_readShelf 286 = .ok (.iload_n 2, 1) := by decide +kernel
theorem dX8_readShelf_287 : decode cX8_readShelf 287 = .ok (.imul, 1) := by decide +kernel
theorem dX8_readShelf_288 : decode cX8_readShelf 288 = .ok (.bipush 9, 2) := by decide +kernel
theorem dX8_readShelf_290 : decode cX8_readShelf 290 = .ok (.iadd, 1) := by decide +kernel
theorem dX8_readShelf_291 : decode cX8_readShelf 291 = .ok (.iaload, 1) := by decide +kernel
theorem dX8_readShelf_292 : decode cX8_readShelf 292 = .ok (.iadd, 1) := by decide +kernel
theorem dX8_readShelf_293 : decode cX8_readShelf 293 = .ok (.bipush 10, 2) := by decide +kernel
theorem dX8_readShelf_295 : decode cX8_readShelf 295 = .ok (.iload_n 3, 1) := by decide +kernel
theorem dX8_readShelf_296 : decode cX8_readShelf 296 = .ok (.imul, 1) := by decide +kernel
theorem dX8_readShelf_297 : decode cX8_readShelf 297 = .ok (.aload_n 0, 1) := by decide +kernel
theorem dX8_readShelf_298 : decode cX8_readShelf 298 = .ok (.getfield 7, 3) := by decide +kernel
theorem dX8_readShelf_301 : decode cX8_readShelf 301 = .ok (.aload_n 0, 1) := by decide +kernel
theorem dX8_readShelf_302 : decode cX8_readShelf 302 = .ok (.getfield 92, 3) := by decide +kernel
theorem dX8_readShelf_305 : decode cX8_readShelf 305 = .ok (.iaload, 1) := by decide +kernel
theorem dX8_readShelf_306 : decode cX8_readShelf 306 = .ok (.iadd, 1) := by decide +kernel
theorem dX8_readShelf_307 : decode cX8_readShelf 307 = .ok (.bipush 48, 2) := by decide +kernel
theorem dX8_readShelf_309 : decode cX8_readShelf 309 = .ok (.isub, 1) := by decide +kernel
theorem dX8_readShelf_310 : decode cX8_readShelf 310 = .ok (.iastore, 1) := by decide +kernel
theorem dX8_readShelf_311 : decode cX8_readShelf 311 = .ok (.aload_n 0, 1) := by decide +kernel
theorem dX8_readShelf_312 : decode cX8_readShelf 312 = .ok (.getfield 41, 3) := by decide +kernel
theorem dX8_readShelf_315 : decode cX8_readShelf 315 = .ok (.bipush 29, 2) := by decide +kernel
theorem dX8_readShelf_317 : decode cX8_readShelf 317 = .ok (.iload_n 2, 1) := by decide +kernel
theorem dX8_readShelf_318 : decode cX8_readShelf 318 = .ok (.imul, 1) := by decide +kernel
theorem dX8_readShelf_319 : decode cX8_readShelf 319 = .ok (.bipush 9, 2) := by decide +kernel
theorem dX8_readShelf_321 : decode cX8_readShelf 321 = .ok (.iadd, 1) := by decide +kernel
theorem dX8_readShelf_322 : decode cX8_readShelf 322 = .ok (.dup2, 1) := by decide +kernel
theorem dX8_readShelf_323 : decode cX8_readShelf 323 = .ok (.iaload, 1) := by decide +kernel
theorem dX8_readShelf_324 : decode cX8_readShelf 324 = .ok (.iconst 1, 1) := by decide +kernel
theorem dX8_readShelf_325 : decode cX8_readShelf 325 = .ok (.iadd, 1) := by decide +kernel
theorem dX8_readShelf_326 : decode cX8_readShelf 326 = .ok (.iastore, 1) := by decide +kernel
theorem dX8_readShelf_327 : decode cX8_readShelf 327 = .ok (.aload_n 0, 1) := by decide +kernel
theorem dX8_readShelf_328 : decode cX8_readShelf 328 = .ok (.dup, 1) := by decide +kernel
theorem dX8_readShelf_329 : decode cX8_readShelf 329 = .ok (.getfield 92, 3) := by decide +kernel
theorem dX8_readShelf_332 : decode cX8_readShelf 332 = .ok (.iconst 1, 1) := by decide +kernel
theorem dX8_readShelf_333 : decode cX8_readShelf 333 = .ok (.iadd, 1) := by decide +kernel
theorem dX8_readShelf_334 : decode cX8_readShelf 334 = .ok (.putfield 92, 3) := by decide +kernel
theorem dX8_readShelf_337 : decode cX8_readShelf 337 = .ok (.iconst 1, 1) := by decide +kernel
theorem dX8_readShelf_338 : decode cX8_readShelf 338 = .ok (.ireturn, 1) := by decide +kernel
theorem dX8_readPart_0 : decode cX8_readPart 0 = .ok (.aload_n 0, 1) := by decide +kernel
theorem dX8_readPart_1 : decode cX8_readPart 1 = .ok (.getfield 7, 3) := by decide +kernel
theorem dX8_readPart_4 : decode cX8_readPart 4 = .ok (.aload_n 0, 1) := by decide +kernel
theorem dX8_readPart_5 : decode cX8_readPart 5 = .ok (.getfield 92, 3) := by decide +kernel
theorem dX8_readPart_8 : decode cX8_readPart 8 = .ok (.iaload, 1) := by decide +kernel
theorem dX8_readPart_9 : decode cX8_readPart 9 = .ok (.lookupswitch 50 #[(104, 35), (112, 40), (115, 45)], 35) := by decide +kernel
theorem dX8_readPart_44 : decode cX8_readPart 44 = .ok (.aload_n 0, 1) := by decide +kernel
theorem dX8_readPart_45 : decode cX8_readPart 45 = .ok (.invokevirtual 131, 3) := by decide +kernel
theorem dX8_readPart_48 : decode cX8_readPart 48 = .ok (.ireturn, 1) := by decide +kernel
theorem dX8_readPart_49 : decode cX8_readPart 49 = .ok (.aload_n 0, 1) := by decide +kernel
theorem dX8_readPart_50 : decode cX8_readPart 50 = .ok (.invokevirtual 135, 3) := by decide +kernel
theorem dX8_readPart_53 : decode cX8_readPart 53 = .ok (.ireturn, 1) := by decide +kernel
theorem dX8_readPart_54 : decode cX8_readPart 54 = .ok (.aload_n 0, 1) := by decide +kernel
theorem dX8_readPart_55 : decode cX8_readPart 55 = .ok (.invokevirtual 138, 3) := by decide +kernel
theorem dX8_readPart_58 : decode cX8_readPart 58 = .ok (.ireturn, 1) := by decide +kernel
theorem dX8_readPart_59 : decode cX8_readPart 59 = .ok (.iconst 0, 1) := by decide +kernel
theorem dX8_readPart_60 : decode cX8_readPart 60 = .ok (.ireturn, 1) := by decide +kernel
theorem dX8_readNet_0 : decode cX8_readNet 0 = .ok (.aload_n 0, 1) := by decide +kernel
theorem dX8_readNet_1 : decode cX8_readNet 1 = .ok (.iconst 0, 1) := by decide +kernel
theorem dX8_readNet_2 : decode cX8_readNet 2 = .ok (.putfield 109, 3) := by decide +kernel
theorem dX8_readNet_5 : decode cX8_readNet 5 = .ok (.aload_n 0, 1) := by decide +kernel
theorem dX8_readNet_6 : decode cX8_readNet 6 = .ok (.iconst 0, 1) := by decide +kernel
theorem dX8_readNet_7 : decode cX8_readNet 7 = .ok (.putfield 112, 3) := by decide +kernel
theorem dX8_readNet_10 : decode cX8_readNet 10 = .ok (.aload_n 0, 1) := by decide +kernel
theorem dX8_readNet_11 : decode cX8_readNet 11 = .ok (.iconst 0, 1) := by decide +kernel
theorem dX8_readNet_12 : decode cX8_readNet 12 = .ok (.putfield 92, 3) := by decide +kernel
theorem dX8_readNet_15 : decode cX8_readNet 15 = .ok (.iconst 0, 1) := by decide +kernel
theorem dX8_readNet_16 : decode cX8_readNet 16 = .ok (.istore_n 1, 1) := by decide +kernel
theorem dX8_readNet_17 : decode cX8_readNet 17 = .ok (.iload_n 1, 1) := by decide +kernel
theorem dX8_readNet_18 : decode cX8_readNet 18 = .ok (.bipush 121, 2) := by decide +kernel
theorem dX8_readNet_20 : decode cX8_readNet 20 = .ok (.if_icmp .ge 16, 3) := by decide +kernel
theorem dX8_readNet_23 : decode cX8_readNet 23 = .ok (.aload_n 0, 1) := by decide +kernel
theorem dX8_readNet_24 : decode cX8_readNet 24 = .ok (.getfield 41, 3) := by decide +kernel
theorem dX8_readNet_27 : decode cX8_readNet 27 = .ok (.iload_n 1, 1) := by decide +kernel
theorem dX8_readNet_28 : decode cX8_readNet 28 = .ok (.iconst 0, 1) := by decide +kernel
theorem dX8_readNet_29 : decode cX8_readNet 29 = .ok (.iastore, 1) := by decide +kernel
theorem dX8_readNet_30 : decode cX8_readNet 30 = .ok (.iinc 1 1, 3) := by decide +kernel
theorem dX8_readNet_33 : decode cX8_readNet 33 = .ok (.goto (-16), 3) := by decide +kernel
theorem dX8_readNet_36 : decode cX8_readNet 36 = .ok (.aload_n 0, 1) := by decide +kernel
theorem dX8_readNet_37 : decode cX8_readNet 37 = .ok (.invokevirtual 141, 3) := by decide +kernel
theorem dX8_readNet_40 : decode cX8_readNet 40 = .ok (.ifCond .ne 8, 3) := by decide +kernel
theorem dX8_readNet_43 : decode cX8_readNet 43 = .ok (.aload_n 0, 1) := by decide +kernel
theorem dX8_readNet_44 : decode cX8_readNet 44 = .ok (.getfield 92, 3) := by decide +kernel
theorem dX8_readNet_47 : decode cX8_readNet 47 = .ok (.ireturn, 1) := by decide +kernel
theorem dX8_readNet_48 : decode cX8_readNet 48 = .ok (.aload_n 0, 1) := by decide +kernel
theorem dX8_readNet_49 : decode cX8_readNet 49 = .ok (.getfield 92, 3) := by decide +kernel
theorem dX8_readNet_52 : decode cX8_readNet 52 = .ok (.aload_n 0, 1) := by decide +kernel
theorem dX8_readNet_53 : decode cX8_readNet 53 = .ok (.getfield 89, 3) := by decide +kernel
theorem dX8_readNet_56 : decode cX8_readNet 56 = .ok (.if_icmp .ge 15, 3) := by decide +kernel
theorem dX8_readNet_59 : decode cX8_readNet 59 = .ok (.aload_n 0, 1) := by decide +kernel
theorem dX8_readNet_60 : decode cX8_readNet 60 = .ok (.invokevirtual 144, 3) := by decide +kernel
theorem dX8_readNet_63 : decode cX8_readNet 63 = .ok (.ifCond .ne (-15), 3) := by decide +kernel
theorem dX8_readNet_66 : decode cX8_readNet 66 = .ok (.aload_n 0, 1) := by decide +kernel
theorem dX8_readNet_67 : decode cX8_readNet 67 = .ok (.getfield 92, 3) := by decide +kernel
theorem dX8_readNet_70 : decode cX8_readNet 70 = .ok (.ireturn, 1) := by decide +kernel
theorem dX8_readNet_71 : decode cX8_readNet 71 = .ok (.bipush (-9), 2) := by decide +kernel
theorem dX8_readNet_73 : decode cX8_readNet 73 = .ok (.ireturn, 1) := by decide +kernel
theorem dX8_fault_0 : decode cX8_fault 0 = .ok (.aload_n 0, 1) := by decide +kernel
theorem dX8_fault_1 : decode cX8_fault 1 = .ok (.iconst 0, 1) := by decide +kernel
theorem dX8_fault_2 : decode cX8_fault 2 = .ok (.putfield 75, 3) := by decide +kernel
theorem dX8_fault_5 : decode cX8_fault 5 = .ok (.aload_n 0, 1) := by decide +kernel
theorem dX8_fault_6 : decode cX8_fault 6 = .ok (.invokevirtual 147, 3) := by decide +kernel
theorem dX8_fault_9 : decode cX8_fault 9 = .ok (.ireturn, 1) := by decide +kernel
theorem dX8_net_0 : decode cX8_net 0 = .ok (.aload_n 0, 1) := by decide +kernel
theorem dX8_net_1 : decode cX8_net 1 = .ok (.iconst 0, 1) := by decide +kernel
theorem dX8_net_2 : decode cX8_net 2 = .ok (.putfield 75, 3) := by decide +kernel
theorem dX8_net_5 : decode cX8_net 5 = .ok (.aload_n 0, 1) := by decide +kernel
theorem dX8_net_6 : decode cX8_net 6 = .ok (.invokevirtual 147, 3) := by decide +kernel
theorem dX8_net_9 : decode cX8_net 9 = .ok (.bipush (-9), 2) := by decide +kernel
theorem dX8_net_11 : decode cX8_net 11 = .ok (.if_icmp .eq 6, 3) := by decide +kernel
theorem dX8_net_14 : decode cX8_net 14 = .ok (.bipush (-3), 2) := by decide +kernel
theorem dX8_net_16 : decode cX8_net 16 = .ok (.ireturn, 1) := by decide +kernel
theorem dX8_net_17 : decode cX8_net 17 = .ok (.aload_n 0, 1) := by decide +kernel
theorem dX8_net_18 : decode cX8_net 18 = .ok (.aload_n 0, 1) := by decide +kernel
theorem dX8_net_19 : decode cX8_net 19 = .ok (.getfield 103, 3) := by decide +kernel
theorem dX8_net_22 : decode cX8_net 22 = .ok (.putfield 13, 3) := by decide +kernel
theorem dX8_net_25 : decode cX8_net 25 = .ok (.aload_n 0, 1) := by decide +kernel
theorem dX8_net_26 : decode cX8_net 26 = .ok (.aload_n 0, 1) := by decide +kernel
theorem dX8_net_27 : decode cX8_net 27 = .ok (.getfield 106, 3) := by decide +kernel
theorem dX8_net_30 : decode cX8_net 30 = .ok (.putfield 17, 3) := by decide +kernel
theorem dX8_net_33 : decode cX8_net 33 = .ok (.aload_n 0, 1) := by decide +kernel
theorem dX8_net_34 : decode cX8_net 34 = .ok (.aload_n 0, 1) := by decide +kernel
theorem dX8_net_35 : decode cX8_net 35 = .ok (.getfield 109, 3) := by decide +kernel
theorem dX8_net_38 : decode cX8_net 38 = .ok (.ifCond .ne 7, 3) := by decide +kernel
theorem dX8_net_41 : decode cX8_net 41 = .ok (.iconst 1, 1) := by decide +kernel
theorem dX8_net_42 : decode cX8_net 42 = .ok (.goto 7, 3) := by decide +kernel
theorem dX8_net_45 : decode cX8_net 45 = .ok (.aload_n 0, 1) := by decide +kernel
theorem dX8_net_46 : decode cX8_net 46 = .ok (.getfield 109, 3) := by decide +kernel
theorem dX8_net_49 : decode cX8_net 49 = .ok (.putfield 20, 3) := by decide +kernel
theorem dX8_net_52 : decode cX8_net 52 = .ok (.aload_n 0, 1) := by decide +kernel
theorem dX8_net_53 : decode cX8_net 53 = .ok (.aload_n 0, 1) := by decide +kernel
theorem dX8_net_54 : decode cX8_net 54 = .ok (.getfield 112, 3) := by decide +kernel
theorem dX8_net_57 : decode cX8_net 57 = .ok (.putfield 78, 3) := by decide +kernel
theorem dX8_net_60 : decode cX8_net 60 = .ok (.iconst 0, 1) := by decide +kernel
theorem dX8_net_61 : decode cX8_net 61 = .ok (.istore_n 1, 1) := by decide +kernel
theorem dX8_net_62 : decode cX8_net 62 = .ok (.iload_n 1, 1) := by decide +kernel
theorem dX8_net_63 : decode cX8_net 63 = .ok (.iconst 3, 1) := by decide +kernel
theorem dX8_net_64 : decode cX8_net 64 = .ok (.if_icmp .ge 55, 3) := by decide +kernel
theorem dX8_net_67 : decode cX8_net 67 = .ok (.aload_n 0, 1) := by decide +kernel
theorem dX8_net_68 : decode cX8_net 68 = .ok (.getfield 23, 3) := by decide +kernel
theorem dX8_net_71 : decode cX8_net 71 = .ok (.iload_n 1, 1) := by decide +kernel
theorem dX8_net_72 : decode cX8_net 72 = .ok (.aload_n 0, 1) := by decide +kernel
theorem dX8_net_73 : decode cX8_net 73 = .ok (.getfield 109, 3) := by decide +kernel
theorem dX8_net_76 : decode cX8_net 76 = .ok (.ifCond .ne 7, 3) := by decide +kernel
theorem dX8_net_79 : decode cX8_net 79 = .ok (.iconst 1, 1) := by decide +kernel
theorem dX8_net_80 : decode cX8_net 80 = .ok (.goto 9, 3) := by decide +kernel
theorem dX8_net_83 : decode cX8_net 83 = .ok (.aload_n 0, 1) := by decide +kernel
theorem dX8_net_84 : decode cX8_net 84 = .ok (.getfield 32, 3) := by decide +kernel
theorem dX8_net_87 : decode cX8_net 87 = .ok (.iload_n 1, 1) := by decide +kernel
theorem dX8_net_88 : decode cX8_net 88 = .ok (.iaload, 1) := by decide +kernel
theorem dX8_net_89 : decode cX8_net 89 = .ok (.iastore, 1) := by decide +kernel
theorem dX8_net_90 : decode cX8_net 90 = .ok (.aload_n 0, 1) := by decide +kernel
theorem dX8_net_91 : decode cX8_net 91 = .ok (.getfield 26, 3) := by decide +kernel
theorem dX8_net_94 : decode cX8_net 94 = .ok (.iload_n 1, 1) := by decide +kernel
theorem dX8_net_95 : decode cX8_net 95 = .ok (.aload_n 0, 1) := by decide +kernel
theorem dX8_net_96 : decode cX8_net 96 = .ok (.getfield 109, 3) := by decide +kernel
theorem dX8_net_99 : decode cX8_net 99 = .ok (.ifCond .ne 7, 3) := by decide +kernel
theorem dX8_net_102 : decode cX8_net 102 = .ok (.iconst 1, 1) := by decide +kernel
theorem dX8_net_103 : decode cX8_net 103 = .ok (.goto 9, 3) := by decide +kernel
theorem dX8_net_106 : decode cX8_net 106 = .ok (.aload_n 0, 1) := by decide +kernel
theorem dX8_net_107 : decode cX8_net 107 = .ok (.getfield 35, 3) := by decide +kernel
theorem dX8_net_110 : decode cX8_net 110 = .ok (.iload_n 1, 1) := by decide +kernel
theorem dX8_net_111 : decode cX8_net 111 = .ok (.iaload, 1) := by decide +kernel
theorem dX8_net_112 : decode cX8_net 112 = .ok (.iastore, 1) := by decide +kernel
theorem dX8_net_113 : decode cX8_net 113 = .ok (.iinc 1 1, 3) := by decide +kernel
theorem dX8_net_116 : decode cX8_net 116 = .ok (.goto (-54), 3) := by decide +kernel
theorem dX8_net_119 : decode cX8_net 119 = .ok (.iconst 0, 1) := by decide +kernel
theorem dX8_net_120 : decode cX8_net 120 = .ok (.istore_n 1, 1) := by decide +kernel
theorem dX8_net_121 : decode cX8_net 121 = .ok (.iload_n 1, 1) := by decide +kernel
theorem dX8_net_122 : decode cX8_net 122 = .ok (.iconst 4, 1) := by decide +kernel
theorem dX8_net_123 : decode cX8_net 123 = .ok (.if_icmp .ge 21, 3) := by decide +kernel
theorem dX8_net_126 : decode cX8_net 126 = .ok (.aload_n 0, 1) := by decide +kernel
theorem dX8_net_127 : decode cX8_net 127 = .ok (.getfield 29, 3) := by decide +kernel
theorem dX8_net_130 : decode cX8_net 130 = .ok (.iload_n 1, 1) := by decide +kernel
theorem dX8_net_131 : decode cX8_net 131 = .ok (.aload_n 0, 1) := by decide +kernel
theorem dX8_net_132 : decode cX8_net 132 = .ok (.getfield 38, 3) := by decide +kernel
theorem dX8_net_135 : decode cX8_net 135 = .ok (.iload_n 1, 1) := by decide +kernel
theorem dX8_net_136 : decode cX8_net 136 = .ok (.iaload, 1) := by decide +kernel
theorem dX8_net_137 : decode cX8_net 137 = .ok (.iastore, 1) := by decide +kernel
theorem dX8_net_138 : decode cX8_net 138 = .ok (.iinc 1 1, 3) := by decide +kernel
theorem dX8_net_141 : decode cX8_net 141 = .ok (.goto (-20), 3) := by decide +kernel
theorem dX8_net_144 : decode cX8_net 144 = .ok (.iconst 0, 1) := by decide +kernel
theorem dX8_net_145 : decode cX8_net 145 = .ok (.istore_n 1, 1) := by decide +kernel
theorem dX8_net_146 : decode cX8_net 146 = .ok (.iload_n 1, 1) := by decide +kernel
theorem dX8_net_147 : decode cX8_net 147 = .ok (.bipush 121, 2) := by decide +kernel
theorem dX8_net_149 : decode cX8_net 149 = .ok (.if_icmp .ge 21, 3) := by decide +kernel
theorem dX8_net_152 : decode cX8_net 152 = .ok (.aload_n 0, 1) := by decide +kernel
theorem dX8_net_153 : decode cX8_net 153 = .ok (.getfield 44, 3) := by decide +kernel
theorem dX8_net_156 : decode cX8_net 156 = .ok (.iload_n 1, 1) := by decide +kernel
theorem dX8_net_157 : decode cX8_net 157 = .ok (.aload_n 0, 1) := by decide +kernel
theorem dX8_net_158 : decode cX8_net 158 = .ok (.getfield 41, 3) := by decide +kernel
theorem dX8_net_161 : decode cX8_net 161 = .ok (.iload_n 1, 1) := by decide +kernel
theorem dX8_net_162 : decode cX8_net 162 = .ok (.iaload, 1) := by decide +kernel
theorem dX8_net_163 : decode cX8_net 163 = .ok (.iastore, 1) := by decide +kernel
theorem dX8_net_164 : decode cX8_net 164 = .ok (.iinc 1 1, 3) := by decide +kernel
theorem dX8_net_167 : decode cX8_net 167 = .ok (.goto (-21), 3) := by decide +kernel
theorem dX8_net_170 : decode cX8_net 170 = .ok (.iconst 0, 1) := by decide +kernel
theorem dX8_net_171 : decode cX8_net 171 = .ok (.istore_n 1, 1) := by decide +kernel
theorem dX8_net_172 : decode cX8_net 172 = .ok (.iload_n 1, 1) := by decide +kernel
theorem dX8_net_173 : decode cX8_net 173 = .ok (.aload_n 0, 1) := by decide +kernel
theorem dX8_net_174 : decode cX8_net 174 = .ok (.getfield 78, 3) := by decide +kernel
theorem dX8_net_177 : decode cX8_net 177 = .ok (.if_icmp .ge 39, 3) := by decide +kernel
theorem dX8_net_180 : decode cX8_net 180 = .ok (.aload_n 0, 1) := by decide +kernel
theorem dX8_net_181 : decode cX8_net 181 = .ok (.aload_n 0, 1) := by decide +kernel
theorem dX8_net_182 : decode cX8_net 182 = .ok (.getfield 44, 3) := by decide +kernel
theorem dX8_net_185 : decode cX8_net 185 = .ok (.iload_n 1, 1) := by decide +kernel
theorem dX8_net_186 : decode cX8_net 186 = .ok (.invokevirtual 151, 3) := by decide +kernel
theorem dX8_net_189 : decode cX8_net 189 = .ok (.aload_n 0, 1) := by decide +kernel
theorem dX8_net_190 : decode cX8_net 190 = .ok (.getfield 44, 3) := by decide +kernel
theorem dX8_net_193 : decode cX8_net 193 = .ok (.bipush 29, 2) := by decide +kernel
theorem dX8_net_195 : decode cX8_net 195 = .ok (.iload_n 1, 1) := by decide +kernel
theorem dX8_net_196 : decode cX8_net 196 = .ok (.imul, 1) := by decide +kernel
theorem dX8_net_197 : decode cX8_net 197 = .ok (.bipush 26, 2) := by decide +kernel
theorem dX8_net_199 : decode cX8_net 199 = .ok (.iadd, 1) := by decide +kernel
theorem dX8_net_200 : decode cX8_net 200 = .ok (.aload_n 0, 1) := by decide +kernel
theorem dX8_net_201 : decode cX8_net 201 = .ok (.aload_n 0, 1) := by decide +kernel
theorem dX8_net_202 : decode cX8_net 202 = .ok (.getfield 44, 3) := by decide +kernel
theorem dX8_net_205 : decode cX8_net 205 = .ok (.iload_n 1, 1) := by decide +kernel
theorem dX8_net_206 : decode cX8_net 206 = .ok (.invokevirtual 155, 3) := by decide +kernel
theorem dX8_net_209 : decode cX8_net 209 = .ok (.iastore, 1) := by decide +kernel
theorem dX8_net_210 : decode cX8_net 210 = .ok (.iinc 1 1, 3) := by decide +kernel
theorem dX8_net_213 : decode cX8_net 213 = .ok (.goto (-41), 3) := by decide +kernel
theorem dX8_net_216 : decode cX8_net 216 = .ok (.aload_n 0, 1) := by decide +kernel
theorem dX8_net_217 : decode cX8_net 217 = .ok (.iconst 0, 1) := by decide +kernel
theorem dX8_net_218 : decode cX8_net 218 = .ok (.putfield 159, 3) := by decide +kernel
theorem dX8_net_221 : decode cX8_net 221 = .ok (.aload_n 0, 1) := by decide +kernel
theorem dX8_net_222 : decode cX8_net 222 = .ok (.getfield 56, 3) := by decide +kernel
theorem dX8_net_225 : decode cX8_net 225 = .ok (.iconst 0, 1) := by decide +kernel
theorem dX8_net_226 : decode cX8_net 226 = .ok (.iconst 0, 1) := by decide +kernel
theorem dX8_net_227 : decode cX8_net 227 = .ok (.bastore, 1) := by decide +kernel
theorem dX8_net_228 : decode cX8_net 228 = .ok (.aload_n 0, 1) := by decide +kernel
theorem dX8_net_229 : decode cX8_net 229 = .ok (.getfield 56, 3) := by decide +kernel
theorem dX8_net_232 : decode cX8_net 232 = .ok (.iconst 1, 1) := by decide +kernel
theorem dX8_net_233 : decode cX8_net 233 = .ok (.iconst 0, 1) := by decide +kernel
theorem dX8_net_234 : decode cX8_net 234 = .ok (.bastore, 1) := by decide +kernel
theorem dX8_net_235 : decode cX8_net 235 = .ok (.aload_n 0, 1) := by decide +kernel
theorem dX8_net_236 : decode cX8_net 236 = .ok (.getfield 78, 3) := by decide +kernel
theorem dX8_net_239 : decode cX8_net 239 = .ok (.ireturn, 1) := by decide +kernel
theorem dX8_hashOf_0 : decode cX8_hashOf 0 = .ok (.aload_n 0, 1) := by decide +kernel
theorem dX8_hashOf_1 : decode cX8_hashOf 1 = .ok (.getfield 23, 3) := by decide +kernel
theorem dX8_hashOf_4 : decode cX8_hashOf 4 = .ok (.iload_n 1, 1) := by decide +kernel
theorem dX8_hashOf_5 : decode cX8_hashOf 5 = .ok (.iaload, 1) := by decide +kernel
theorem dX8_hashOf_6 : decode cX8_hashOf 6 = .ok (.iload_n 2, 1) := by decide +kernel
theorem dX8_hashOf_7 : decode cX8_hashOf 7 = .ok (.imul, 1) := by decide +kernel
theorem dX8_hashOf_8 : decode cX8_hashOf 8 = .ok (.aload_n 0, 1) := by decide +kernel
theorem dX8_hashOf_9 : decode cX8_hashOf 9 = .ok (.getfield 26, 3) := by decide +kernel
theorem dX8_hashOf_12 : decode cX8_hashOf 12 = .ok (.iload_n 1, 1) := by decide +kernel
theorem dX8_hashOf_13 : decode cX8_hashOf 13 = .ok (.iaload, 1) := by decide +kernel
theorem dX8_hashOf_14 : decode cX8_hashOf 14 = .ok (.iload_n 3, 1) := by decide +kernel
theorem dX8_hashOf_15 : decode cX8_hashOf 15 = .ok (.iconst 1, 1) := by decide +kernel
theorem dX8_hashOf_16 : decode cX8_hashOf 16 = .ok (.iadd, 1) := by decide +kernel
theorem dX8_hashOf_17 : decode cX8_hashOf 17 = .ok (.imul, 1) := by decide +kernel
theorem dX8_hashOf_18 : decode cX8_hashOf 18 = .ok (.iload_n 3, 1) := by decide +kernel
theorem dX8_hashOf_19 : decode cX8_hashOf 19 = .ok (.iconst 1, 1) := by decide +kernel
theorem dX8_hashOf_20 : decode cX8_hashOf 20 = .ok (.iadd, 1) := by decide +kernel
theorem dX8_hashOf_21 : decode cX8_hashOf 21 = .ok (.imul, 1) := by decide +kernel
theorem dX8_hashOf_22 : decode cX8_hashOf 22 = .ok (.iadd, 1) := by decide +kernel
theorem dX8_hashOf_23 : decode cX8_hashOf 23 = .ok (.bipush 37, 2) := by decide +kernel
theorem dX8_hashOf_25 : decode cX8_hashOf 25 = .ok (.irem, 1) := by decide +kernel
theorem dX8_hashOf_26 : decode cX8_hashOf 26 = .ok (.aload_n 0, 1) := by decide +kernel
theorem dX8_hashOf_27 : decode cX8_hashOf 27 = .ok (.getfield 13, 3) := by decide +kernel
theorem dX8_hashOf_30 : decode cX8_hashOf 30 = .ok (.irem, 1) := by decide +kernel
theorem dX8_hashOf_31 : decode cX8_hashOf 31 = .ok (.ireturn, 1) := by decide +kernel
theorem dX8_filterOf_0 : decode cX8_filterOf 0 = .ok (.iconst 0, 1) := by decide +kernel
theorem dX8_filterOf_1 : decode cX8_filterOf 1 = .ok (.istore_n 3, 1) := by decide +kernel
theorem dX8_filterOf_2 : decode cX8_filterOf 2 = .ok (.iconst 0, 1) := by decide +kernel
theorem dX8_filterOf_3 : decode cX8_filterOf 3 = .ok (.istore 4, 2) := by decide +kernel
theorem dX8_filterOf_5 : decode cX8_filterOf 5 = .ok (.iload 4, 2) := by decide +kernel
theorem dX8_filterOf_7 : decode cX8_filterOf 7 = .ok (.aload_n 0, 1) := by decide +kernel
theorem dX8_filterOf_8 : decode cX8_filterOf 8 = .ok (.getfield 13, 3) := by decide +kernel
theorem dX8_filterOf_11 : decode cX8_filterOf 11 = .ok (.if_icmp .ge 35, 3) := by decide +kernel
theorem dX8_filterOf_14 : decode cX8_filterOf 14 = .ok (.iload_n 3, 1) := by decide +kernel
theorem dX8_filterOf_15 : decode cX8_filterOf 15 = .ok (.aload_n 1, 1) := by decide +kernel
theorem dX8_filterOf_16 : decode cX8_filterOf 16 = .ok (.bipush 29, 2) := by decide +kernel
theorem dX8_filterOf_18 : decode cX8_filterOf 18 = .ok (.iload_n 2, 1) := by decide +kernel
theorem dX8_filterOf_19 : decode cX8_filterOf 19 = .ok (.imul, 1) := by decide +kernel
theorem dX8_filterOf_20 : decode cX8_filterOf 20 = .ok (.bipush 10, 2) := by decide +kernel
theorem dX8_filterOf_22 : decode cX8_filterOf 22 = .ok (.iadd, 1) := by decide +kernel
theorem dX8_filterOf_23 : decode cX8_filterOf 23 = .ok (.iload 4, 2) := by decide +kernel
theorem dX8_filterOf_25 : decode cX8_filterOf 25 = .ok (.iadd, 1) := by decide +kernel
theorem dX8_filterOf_26 : decode cX8_filterOf 26 = .ok (.iaload, 1) := by decide +kernel
theorem dX8_filterOf_27 : decode cX8_filterOf 27 = .ok (.ifCond .le 10, 3) := by decide +kernel
theorem dX8_filterOf_30 : decode cX8_filterOf 30 = .ok (.iconst 1, 1) := by decide +kernel
theorem dX8_filterOf_31 : decode cX8_filterOf 31 = .ok (.iload 4, 2) := by decide +kernel
theorem dX8_filterOf_33 : decode cX8_filterOf 33 = .ok (.ishl, 1) := by decide +kernel
theorem dX8_filterOf_34 : decode cX8_filterOf 34 = .ok (.goto 4, 3) := by decide +kernel
theorem dX8_filterOf_37 : decode cX8_filterOf 37 = .ok (.iconst 0, 1) := by decide +kernel
theorem dX8_filterOf_38 : decode cX8_filterOf 38 = .ok (.ior, 1) := by decide +kernel
theorem dX8_filterOf_39 : decode cX8_filterOf 39 = .ok (.istore_n 3, 1) := by decide +kernel
theorem dX8_filterOf_40 : decode cX8_filterOf 40 = .ok (.iinc 4 1, 3) := by decide +kernel
theorem dX8_filterOf_43 : decode cX8_filterOf 43 = .ok (.goto (-38), 3) := by decide +kernel
theorem dX8_filterOf_46 : decode cX8_filterOf 46 = .ok (.iload_n 3, 1) := by decide +kernel
theorem dX8_filterOf_47 : decode cX8_filterOf 47 = .ok (.ireturn, 1) := by decide +kernel
theorem dX8_isSaid_0 : decode cX8_isSaid 0 = .ok (.iconst 1, 1) := by decide +kernel
theorem dX8_isSaid_1 : decode cX8_isSaid 1 = .ok (.istore 4, 2) := by decide +kernel
theorem dX8_isSaid_3 : decode cX8_isSaid 3 = .ok (.iconst 0, 1) := by decide +kernel
theorem dX8_isSaid_4 : decode cX8_isSaid 4 = .ok (.istore 5, 2) := by decide +kernel
theorem dX8_isSaid_6 : decode cX8_isSaid 6 = .ok (.iload 5, 2) := by decide +kernel
theorem dX8_isSaid_8 : decode cX8_isSaid 8 = .ok (.aload_n 0, 1) := by decide +kernel
theorem dX8_isSaid_9 : decode cX8_isSaid 9 = .ok (.getfield 17, 3) := by decide +kernel
theorem dX8_isSaid_12 : decode cX8_isSaid 12 = .ok (.if_icmp .ge 36, 3) := by decide +kernel
theorem dX8_isSaid_15 : decode cX8_isSaid 15 = .ok (.iload 4, 2) := by decide +kernel
theorem dX8_isSaid_17 : decode cX8_isSaid 17 = .ok (.ifCond .eq 22, 3) := by decide +kernel
theorem dX8_isSaid_20 : decode cX8_isSaid 20 = .ok (.iload_n 1, 1) := by decide +kernel
theorem dX8_isSaid_21 : decode cX8_isSaid 21 = .ok (.aload_n 0, 1) := by decide +kernel
theorem dX8_isSaid_22 : decode cX8_isSaid 22 = .ok (.iload_n 2, 1) := by decide +kernel
theorem dX8_isSaid_23 : decode cX8_isSaid 23 = .ok (.iload_n 3, 1) := by decide +kernel
theorem dX8_isSaid_24 : decode cX8_isSaid 24 = .ok (.iload 5, 2) := by decide +kernel
theorem dX8_isSaid_26 : decode cX8_isSaid 26 = .ok (.invokevirtual 162, 3) := by decide +kernel
theorem dX8_isSaid_29 : decode cX8_isSaid 29 = .ok (.invokestatic 166, 3) := by decide +kernel
theorem dX8_isSaid_32 : decode cX8_isSaid 32 = .ok (.ifCond .eq 7, 3) := by decide +kernel
theorem dX8_isSaid_35 : decode cX8_isSaid 35 = .ok (.iconst 1, 1) := by decide +kernel
theorem dX8_isSaid_36 : decode cX8_isSaid 36 = .ok (.goto 4, 3) := by decide +kernel
theorem dX8_isSaid_39 : decode cX8_isSaid 39 = .ok (.iconst 0, 1) := by decide +kernel
theorem dX8_isSaid_40 : decode cX8_isSaid 40 = .ok (.istore 4, 2) := by decide +kernel
theorem dX8_isSaid_42 : decode cX8_isSaid 42 = .ok (.iinc 5 1, 3) := by decide +kernel
theorem dX8_isSaid_45 : decode cX8_isSaid 45 = .ok (.goto (-39), 3) := by decide +kernel
theorem dX8_isSaid_48 : decode cX8_isSaid 48 = .ok (.iload 4, 2) := by decide +kernel
theorem dX8_isSaid_50 : decode cX8_isSaid 50 = .ok (.ireturn, 1) := by decide +kernel
theorem dX8_summarySays_0 : decode cX8_summarySays 0 = .ok (.aload_n 0, 1) := by decide +kernel
theorem dX8_summarySays_1 : decode cX8_summarySays 1 = .ok (.aload_n 1, 1) := by decide +kernel
theorem dX8_summarySays_2 : decode cX8_summarySays 2 = .ok (.bipush 29, 2) := by decide +kernel
theorem dX8_summarySays_4 : decode cX8_summarySays 4 = .ok (.iload_n 2, 1) := by decide +kernel
theorem dX8_summarySays_5 : decode cX8_summarySays 5 = .ok (.imul, 1) := by decide +kernel
theorem dX8_summarySays_6 : decode cX8_summarySays 6 = .ok (.bipush 26, 2) := by decide +kernel
theorem dX8_summarySays_8 : decode cX8_summarySays 8 = .ok (.iadd, 1) := by decide +kernel
theorem dX8_summarySays_9 : decode cX8_summarySays 9 = .ok (.iaload, 1) := by decide +kernel
theorem dX8_summarySays_10 : decode cX8_summarySays 10 = .ok (.aload_n 1, 1) := by decide +kernel
theorem dX8_summarySays_11 : decode cX8_summarySays 11 = .ok (.bipush 116, 2) := by decide +kernel
theorem dX8_summarySays_13 : decode cX8_summarySays 13 = .ok (.iaload, 1) := by decide +kernel
theorem dX8_summarySays_14 : decode cX8_summarySays 14 = .ok (.iload_n 3, 1) := by decide +kernel
theorem dX8_summarySays_15 : decode cX8_summarySays 15 = .ok (.invokevirtual 169, 3) := by decide +kernel
theorem dX8_summarySays_18 : decode cX8_summarySays 18 = .ok (.ireturn, 1) := by decide +kernel
theorem dX8_tally_0 : decode cX8_tally 0 = .ok (.iconst 0, 1) := by decide +kernel
theorem dX8_tally_1 : decode cX8_tally 1 = .ok (.istore 5, 2) := by decide +kernel
theorem dX8_tally_3 : decode cX8_tally 3 = .ok (.iload 5, 2) := by decide +kernel
theorem dX8_tally_5 : decode cX8_tally 5 = .ok (.aload_n 0, 1) := by decide +kernel
theorem dX8_tally_6 : decode cX8_tally 6 = .ok (.getfield 17, 3) := by decide +kernel
theorem dX8_tally_9 : decode cX8_tally 9 = .ok (.if_icmp .ge 52, 3) := by decide +kernel
theorem dX8_tally_12 : decode cX8_tally 12 = .ok (.bipush 29, 2) := by decide +kernel
theorem dX8_tally_14 : decode cX8_tally 14 = .ok (.iload_n 2, 1) := by decide +kernel
theorem dX8_tally_15 : decode cX8_tally 15 = .ok (.imul, 1) := by decide +kernel
theorem dX8_tally_16 : decode cX8_tally 16 = .ok (.bipush 10, 2) := by decide +kernel
theorem dX8_tally_18 : decode cX8_tally 18 = .ok (.iadd, 1) := by decide +kernel
theorem dX8_tally_19 : decode cX8_tally 19 = .ok (.aload_n 0, 1) := by decide +kernel
theorem dX8_tally_20 : decode cX8_tally 20 = .ok (.aload_n 1, 1) := by decide +kernel
theorem dX8_tally_21 : decode cX8_tally 21 = .ok (.bipush 116, 2) := by decide +kernel
theorem dX8_tally_23 : decode cX8_tally 23 = .ok (.iaload, 1) := by decide +kernel
theorem dX8_tally_24 : decode cX8_tally 24 = .ok (.iload_n 3, 1) := by decide +kernel
theorem dX8_tally_25 : decode cX8_tally 25 = .ok (.iload 5, 2) := by decide +kernel
theorem dX8_tally_27 : decode cX8_tally 27 = .ok (.invokevirtual 162, 3) := by decide +kernel
theorem dX8_tally_30 : decode cX8_tally 30 = .ok (.iadd, 1) := by decide +kernel
theorem dX8_tally_31 : decode cX8_tally 31 = .ok (.istore 6, 2) := by decide +kernel
theorem dX8_tally_33 : decode cX8_tally 33 = .ok (.aload_n 1, 1) := by decide +kernel
theorem dX8_tally_34 : decode cX8_tally 34 = .ok (.iload 6, 2) := by decide +kernel
theorem dX8_tally_36 : decode cX8_tally 36 = .ok (.dup2, 1) := by decide +kernel
theorem dX8_tally_37 : decode cX8_tally 37 = .ok (.iaload, 1) := by decide +kernel
theorem dX8_tally_38 : decode cX8_tally 38 = .ok (.aload_n 1, 1) := by decide +kernel
theorem dX8_tally_39 : decode cX8_tally 39 = .ok (.iload 6, 2) := by decide +kernel
theorem dX8_tally_41 : decode cX8_tally 41 = .ok (.iaload, 1) := by decide +kernel
theorem dX8_tally_42 : decode cX8_tally 42 = .ok (.bipush 7, 2) := by decide +kernel
theorem dX8_tally_44 : decode cX8_tally 44 = .ok (.if_icmp .ne 7, 3) := by decide +kernel
theorem dX8_tally_47 : decode cX8_tally 47 = .ok (.iconst 0, 1) := by decide +kernel
theorem dX8_tally_48 : decode cX8_tally 48 = .ok (.goto 5, 3) := by decide +kernel
theorem dX8_tally_51 : decode cX8_tally 51 = .ok (.iload 4, 2) := by decide +kernel
theorem dX8_tally_53 : decode cX8_tally 53 = .ok (.iadd, 1) := by decide +kernel
theorem dX8_tally_54 : decode cX8_tally 54 = .ok (.iastore, 1) := by decide +kernel
theorem dX8_tally_55 : decode cX8_tally 55 = .ok (.iinc 5 1, 3) := by decide +kernel
theorem dX8_tally_58 : decode cX8_tally 58 = .ok (.goto (-55), 3) := by decide +kernel
theorem dX8_tally_61 : decode cX8_tally 61 = .ok (.return_, 1) := by decide +kernel
theorem dX8_makeAnew_0 : decode cX8_makeAnew 0 = .ok (.iconst 0, 1) := by decide +kernel
theorem dX8_makeAnew_1 : decode cX8_makeAnew 1 = .ok (.istore_n 3, 1) := by decide +kernel
theorem dX8_makeAnew_2 : decode cX8_makeAnew 2 = .ok (.iload_n 3, 1) := by decide +kernel
theorem dX8_makeAnew_3 : decode cX8_makeAnew 3 = .ok (.bipush 16, 2) := by decide +kernel
theorem dX8_makeAnew_5 : decode cX8_makeAnew 5 = .ok (.if_icmp .ge 21, 3) := by decide +kernel
theorem dX8_makeAnew_8 : decode cX8_makeAnew 8 = .ok (.aload_n 1, 1) := by decide +kernel
theorem dX8_makeAnew_9 : decode cX8_makeAnew 9 = .ok (.bipush 29, 2) := by decide +kernel
theorem dX8_makeAnew_11 : decode cX8_makeAnew 11 = .ok (.iload_n 2, 1) := by decide +kernel
theorem dX8_makeAnew_12 : decode cX8_makeAnew 12 = .ok (.imul, 1) := by decide +kernel
theorem dX8_makeAnew_13 : decode cX8_makeAnew 13 = .ok (.bipush 10, 2) := by decide +kernel
theorem dX8_makeAnew_15 : decode cX8_makeAnew 15 = .ok (.iadd, 1) := by decide +kernel
theorem dX8_makeAnew_16 : decode cX8_makeAnew 16 = .ok (.iload_n 3, 1) := by decide +kernel
theorem dX8_makeAnew_17 : decode cX8_makeAnew 17 = .ok (.iadd, 1) := by decide +kernel
theorem dX8_makeAnew_18 : decode cX8_makeAnew 18 = .ok (.iconst 0, 1) := by decide +kernel
theorem dX8_makeAnew_19 : decode cX8_makeAnew 19 = .ok (.iastore, 1) := by decide +kernel
theorem dX8_makeAnew_20 : decode cX8_makeAnew 20 = .ok (.iinc 3 1, 3) := by decide +kernel
theorem dX8_makeAnew_23 : decode cX8_makeAnew 23 = .ok (.goto (-21), 3) := by decide +kernel
theorem dX8_makeAnew_26 : decode cX8_makeAnew 26 = .ok (.aload_n 1, 1) := by decide +kernel
theorem dX8_makeAnew_27 : decode cX8_makeAnew 27 = .ok (.bipush 29, 2) := by decide +kernel
theorem dX8_makeAnew_29 : decode cX8_makeAnew 29 = .ok (.iload_n 2, 1) := by decide +kernel
theorem dX8_makeAnew_30 : decode cX8_makeAnew 30 = .ok (.imul, 1) := by decide +kernel
theorem dX8_makeAnew_31 : decode cX8_makeAnew 31 = .ok (.bipush 9, 2) := by decide +kernel
theorem dX8_makeAnew_33 : decode cX8_makeAnew 33 = .ok (.iadd, 1) := by decide +kernel
theorem dX8_makeAnew_34 : decode cX8_makeAnew 34 = .ok (.iaload, 1) := by decide +kernel
theorem dX8_makeAnew_35 : decode cX8_makeAnew 35 = .ok (.iconst 1, 1) := by decide +kernel
theorem dX8_makeAnew_36 : decode cX8_makeAnew 36 = .ok (.isub, 1) := by decide +kernel
theorem dX8_makeAnew_37 : decode cX8_makeAnew 37 = .ok (.istore_n 3, 1) := by decide +kernel
theorem dX8_makeAnew_38 : decode cX8_makeAnew 38 = .ok (.iload_n 3, 1) := by decide +kernel
theorem dX8_makeAnew_39 : decode cX8_makeAnew 39 = .ok (.ifCond .lt 24, 3) := by decide +kernel
theorem dX8_makeAnew_42 : decode cX8_makeAnew 42 = .ok (.aload_n 0, 1) := by decide +kernel
theorem dX8_makeAnew_43 : decode cX8_makeAnew 43 = .ok (.aload_n 1, 1) := by decide +kernel
theorem dX8_makeAnew_44 : decode cX8_makeAnew 44 = .ok (.iload_n 2, 1) := by decide +kernel
theorem dX8_makeAnew_45 : decode cX8_makeAnew 45 = .ok (.aload_n 1, 1) := by decide +kernel
theorem dX8_makeAnew_46 : decode cX8_makeAnew 46 = .ok (.bipush 29, 2) := by decide +kernel
theorem dX8_makeAnew_48 : decode cX8_makeAnew 48 = .ok (.iload_n 2, 1) := by decide +kernel
theorem dX8_makeAnew_49 : decode cX8_makeAnew 49 = .ok (.imul, 1) := by decide +kernel
theorem dX8_makeAnew_50 : decode cX8_makeAnew 50 = .ok (.iload_n 3, 1) := by decide +kernel
theorem dX8_makeAnew_51 : decode cX8_makeAnew 51 = .ok (.iadd, 1) := by decide +kernel
theorem dX8_makeAnew_52 : decode cX8_makeAnew 52 = .ok (.iaload, 1) := by decide +kernel
theorem dX8_makeAnew_53 : decode cX8_makeAnew 53 = .ok (.iconst 1, 1) := by decide +kernel
theorem dX8_makeAnew_54 : decode cX8_makeAnew 54 = .ok (.invokevirtual 172, 3) := by decide +kernel
theorem dX8_makeAnew_57 : decode cX8_makeAnew 57 = .ok (.iinc 3 (-1), 3) := by decide +kernel
theorem dX8_makeAnew_60 : decode cX8_makeAnew 60 = .ok (.goto (-22), 3) := by decide +kernel
theorem dX8_makeAnew_63 : decode cX8_makeAnew 63 = .ok (.return_, 1) := by decide +kernel
theorem dX8_placeOf_0 : decode cX8_placeOf 0 = .ok (.bipush (-9), 2) := by decide +kernel
theorem dX8_placeOf_2 : decode cX8_placeOf 2 = .ok (.istore_n 3, 1) := by decide +kernel
theorem dX8_placeOf_3 : decode cX8_placeOf 3 = .ok (.iconst 0, 1) := by decide +kernel
theorem dX8_placeOf_4 : decode cX8_placeOf 4 = .ok (.istore 4, 2) := by decide +kernel
theorem dX8_placeOf_6 : decode cX8_placeOf 6 = .ok (.iload 4, 2) := by decide +kernel
theorem dX8_placeOf_8 : decode cX8_placeOf 8 = .ok (.aload_n 0, 1) := by decide +kernel
theorem dX8_placeOf_9 : decode cX8_placeOf 9 = .ok (.bipush 29, 2) := by decide +kernel
theorem dX8_placeOf_11 : decode cX8_placeOf 11 = .ok (.iload_n 1, 1) := by decide +kernel
theorem dX8_placeOf_12 : decode cX8_placeOf 12 = .ok (.imul, 1) := by decide +kernel
theorem dX8_placeOf_13 : decode cX8_placeOf 13 = .ok (.bipush 9, 2) := by decide +kernel
theorem dX8_placeOf_15 : decode cX8_placeOf 15 = .ok (.iadd, 1) := by decide +kernel
theorem dX8_placeOf_16 : decode cX8_placeOf 16 = .ok (.iaload, 1) := by decide +kernel
theorem dX8_placeOf_17 : decode cX8_placeOf 17 = .ok (.if_icmp .ge 29, 3) := by decide +kernel
theorem dX8_placeOf_20 : decode cX8_placeOf 20 = .ok (.aload_n 0, 1) := by decide +kernel
theorem dX8_placeOf_21 : decode cX8_placeOf 21 = .ok (.bipush 29, 2) := by decide +kernel
theorem dX8_placeOf_23 : decode cX8_placeOf 23 = .ok (.iload_n 1, 1) := by decide +kernel
theorem dX8_placeOf_24 : decode cX8_placeOf 24 = .ok (.imul, 1) := by decide +kernel
theorem dX8_placeOf_25 : decode cX8_placeOf 25 = .ok (.iload 4, 2) := by decide +kernel
theorem dX8_placeOf_27 : decode cX8_placeOf 27 = .ok (.iadd, 1) := by decide +kernel
theorem dX8_placeOf_28 : decode cX8_placeOf 28 = .ok (.iaload, 1) := by decide +kernel
theorem dX8_placeOf_29 : decode cX8_placeOf 29 = .ok (.iload_n 2, 1) := by decide +kernel
theorem dX8_placeOf_30 : decode cX8_placeOf 30 = .ok (.if_icmp .ne 8, 3) := by decide +kernel
theorem dX8_placeOf_33 : decode cX8_placeOf 33 = .ok (.iload 4, 2) := by decide +kernel
theorem dX8_placeOf_35 : decode cX8_placeOf 35 = .ok (.goto 4, 3) := by decide +kernel
theorem dX8_placeOf_38 : decode cX8_placeOf 38 = .ok (.iload_n 3, 1) := by decide +kernel
theorem dX8_placeOf_39 : decode cX8_placeOf 39 = .ok (.istore_n 3, 1) := by decide +kernel
theorem dX8_placeOf_40 : decode cX8_placeOf 40 = .ok (.iinc 4 1, 3) := by decide +kernel
theorem dX8_placeOf_43 : decode cX8_placeOf 43 = .ok (.goto (-37), 3) := by decide +kernel
theorem dX8_placeOf_46 : decode cX8_placeOf 46 = .ok (.iload_n 3, 1) := by decide +kernel
theorem dX8_placeOf_47 : decode cX8_placeOf 47 = .ok (.ireturn, 1) := by decide +kernel
theorem dX8_freshen_0 : decode cX8_freshen 0 = .ok (.aload_n 0, 1) := by decide +kernel
theorem dX8_freshen_1 : decode cX8_freshen 1 = .ok (.bipush 29, 2) := by decide +kernel
theorem dX8_freshen_3 : decode cX8_freshen 3 = .ok (.iload_n 1, 1) := by decide +kernel
theorem dX8_freshen_4 : decode cX8_freshen 4 = .ok (.imul, 1) := by decide +kernel
theorem dX8_freshen_5 : decode cX8_freshen 5 = .ok (.iload_n 2, 1) := by decide +kernel
theorem dX8_freshen_6 : decode cX8_freshen 6 = .ok (.iadd, 1) := by decide +kernel
theorem dX8_freshen_7 : decode cX8_freshen 7 = .ok (.iaload, 1) := by decide +kernel
theorem dX8_freshen_8 : decode cX8_freshen 8 = .ok (.istore_n 3, 1) := by decide +kernel
theorem dX8_freshen_9 : decode cX8_freshen 9 = .ok (.iload_n 2, 1) := by decide +kernel
theorem dX8_freshen_10 : decode cX8_freshen 10 = .ok (.istore 4, 2) := by decide +kernel
theorem dX8_freshen_12 : decode cX8_freshen 12 = .ok (.iload 4, 2) := by decide +kernel
theorem dX8_freshen_14 : decode cX8_freshen 14 = .ok (.ifCond .le 29, 3) := by decide +kernel
theorem dX8_freshen_17 : decode cX8_freshen 17 = .ok (.aload_n 0, 1) := by decide +kernel
theorem dX8_freshen_18 : decode cX8_freshen 18 = .ok (.bipush 29, 2) := by decide +kernel
theorem dX8_freshen_20 : decode cX8_freshen 20 = .ok (.iload_n 1, 1) := by decide +kernel
theorem dX8_freshen_21 : decode cX8_freshen 21 = .ok (.imul, 1) := by decide +kernel
theorem dX8_freshen_22 : decode cX8_freshen 22 = .ok (.iload 4, 2) := by decide +kernel
theorem dX8_freshen_24 : decode cX8_freshen 24 = .ok (.iadd, 1) := by decide +kernel
theorem dX8_freshen_25 : decode cX8_freshen 25 = .ok (.aload_n 0, 1) := by decide +kernel
theorem dX8_freshen_26 : decode cX8_freshen 26 = .ok (.bipush 29, 2) := by decide +kernel
theorem dX8_freshen_28 : decode cX8_freshen 28 = .ok (.iload_n 1, 1) := by decide +kernel
theorem dX8_freshen_29 : decode cX8_freshen 29 = .ok (.imul, 1) := by decide +kernel
theorem dX8_freshen_30 : decode cX8_freshen 30 = .ok (.iload 4, 2) := by decide +kernel
theorem dX8_freshen_32 : decode cX8_freshen 32 = .ok (.iadd, 1) := by decide +kernel
theorem dX8_freshen_33 : decode cX8_freshen 33 = .ok (.iconst 1, 1) := by decide +kernel
theorem dX8_freshen_34 : decode cX8_freshen 34 = .ok (.isub, 1) := by decide +kernel
theorem dX8_freshen_35 : decode cX8_freshen 35 = .ok (.iaload, 1) := by decide +kernel
theorem dX8_freshen_36 : decode cX8_freshen 36 = .ok (.iastore, 1) := by decide +kernel
theorem dX8_freshen_37 : decode cX8_freshen 37 = .ok (.iinc 4 (-1), 3) := by decide +kernel
theorem dX8_freshen_40 : decode cX8_freshen 40 = .ok (.goto (-28), 3) := by decide +kernel
theorem dX8_freshen_43 : decode cX8_freshen 43 = .ok (.aload_n 0, 1) := by decide +kernel
theorem dX8_freshen_44 : decode cX8_freshen 44 = .ok (.bipush 29, 2) := by decide +kernel
theorem dX8_freshen_46 : decode cX8_freshen 46 = .ok (.iload_n 1, 1) := by decide +kernel
theorem dX8_freshen_47 : decode cX8_freshen 47 = .ok (.imul, 1) := by decide +kernel
theorem dX8_freshen_48 : decode cX8_freshen 48 = .ok (.iload_n 3, 1) := by decide +kernel
theorem dX8_freshen_49 : decode cX8_freshen 49 = .ok (.iastore, 1) := by decide +kernel
theorem dX8_freshen_50 : decode cX8_freshen 50 = .ok (.return_, 1) := by decide +kernel
theorem dX8_goOut_0 : decode cX8_goOut 0 = .ok (.aload_n 0, 1) := by decide +kernel
theorem dX8_goOut_1 : decode cX8_goOut 1 = .ok (.aload_n 1, 1) := by decide +kernel
theorem dX8_goOut_2 : decode cX8_goOut 2 = .ok (.iload_n 2, 1) := by decide +kernel
theorem dX8_goOut_3 : decode cX8_goOut 3 = .ok (.aload_n 1, 1) := by decide +kernel
theorem dX8_goOut_4 : decode cX8_goOut 4 = .ok (.bipush 29, 2) := by decide +kernel
theorem dX8_goOut_6 : decode cX8_goOut 6 = .ok (.iload_n 2, 1) := by decide +kernel
theorem dX8_goOut_7 : decode cX8_goOut 7 = .ok (.imul, 1) := by decide +kernel
theorem dX8_goOut_8 : decode cX8_goOut 8 = .ok (.iload_n 3, 1) := by decide +kernel
theorem dX8_goOut_9 : decode cX8_goOut 9 = .ok (.iadd, 1) := by decide +kernel
theorem dX8_goOut_10 : decode cX8_goOut 10 = .ok (.iaload, 1) := by decide +kernel
theorem dX8_goOut_11 : decode cX8_goOut 11 = .ok (.iconst (-1), 1) := by decide +kernel
theorem dX8_goOut_12 : decode cX8_goOut 12 = .ok (.invokevirtual 172, 3) := by decide +kernel
theorem dX8_goOut_15 : decode cX8_goOut 15 = .ok (.aload_n 1, 1) := by decide +kernel
theorem dX8_goOut_16 : decode cX8_goOut 16 = .ok (.bipush 29, 2) := by decide +kernel
theorem dX8_goOut_18 : decode cX8_goOut 18 = .ok (.iload_n 2, 1) := by decide +kernel
theorem dX8_goOut_19 : decode cX8_goOut 19 = .ok (.imul, 1) := by decide +kernel
theorem dX8_goOut_20 : decode cX8_goOut 20 = .ok (.bipush 9, 2) := by decide +kernel
theorem dX8_goOut_22 : decode cX8_goOut 22 = .ok (.iadd, 1) := by decide +kernel
theorem dX8_goOut_23 : decode cX8_goOut 23 = .ok (.dup2, 1) := by decide +kernel
theorem dX8_goOut_24 : decode cX8_goOut 24 = .ok (.iaload, 1) := by decide +kernel
theorem dX8_goOut_25 : decode cX8_goOut 25 = .ok (.iconst 1, 1) := by decide +kernel
theorem dX8_goOut_26 : decode cX8_goOut 26 = .ok (.isub, 1) := by decide +kernel
theorem dX8_goOut_27 : decode cX8_goOut 27 = .ok (.iastore, 1) := by decide +kernel
theorem dX8_goOut_28 : decode cX8_goOut 28 = .ok (.iload_n 3, 1) := by decide +kernel
theorem dX8_goOut_29 : decode cX8_goOut 29 = .ok (.istore 4, 2) := by decide +kernel
theorem dX8_goOut_31 : decode cX8_goOut 31 = .ok (.iload 4, 2) := by decide +kernel
theorem dX8_goOut_33 : decode cX8_goOut 33 = .ok (.aload_n 1, 1) := by decide +kernel
theorem dX8_goOut_34 : decode cX8_goOut 34 = .ok (.bipush 29, 2) := by decide +kernel
theorem dX8_goOut_36 : decode cX8_goOut 36 = .ok (.iload_n 2, 1) := by decide +kernel
theorem dX8_goOut_37 : decode cX8_goOut 37 = .ok (.imul, 1) := by decide +kernel
theorem dX8_goOut_38 : decode cX8_goOut 38 = .ok (.bipush 9, 2) := by decide +kernel
theorem dX8_goOut_40 : decode cX8_goOut 40 = .ok (.iadd, 1) := by decide +kernel
theorem dX8_goOut_41 : decode cX8_goOut 41 = .ok (.iaload, 1) := by decide +kernel
theorem dX8_goOut_42 : decode cX8_goOut 42 = .ok (.if_icmp .ge 29, 3) := by decide +kernel
theorem dX8_goOut_45 : decode cX8_goOut 45 = .ok (.aload_n 1, 1) := by decide +kernel
theorem dX8_goOut_46 : decode cX8_goOut 46 = .ok (.bipush 29, 2) := by decide +kernel
theorem dX8_goOut_48 : decode cX8_goOut 48 = .ok (.iload_n 2, 1) := by decide +kernel
theorem dX8_goOut_49 : decode cX8_goOut 49 = .ok (.imul, 1) := by decide +kernel
theorem dX8_goOut_50 : decode cX8_goOut 50 = .ok (.iload 4, 2) := by decide +kernel
theorem dX8_goOut_52 : decode cX8_goOut 52 = .ok (.iadd, 1) := by decide +kernel
theorem dX8_goOut_53 : decode cX8_goOut 53 = .ok (.aload_n 1, 1) := by decide +kernel
theorem dX8_goOut_54 : decode cX8_goOut 54 = .ok (.bipush 29, 2) := by decide +kernel
theorem dX8_goOut_56 : decode cX8_goOut 56 = .ok (.iload_n 2, 1) := by decide +kernel
theorem dX8_goOut_57 : decode cX8_goOut 57 = .ok (.imul, 1) := by decide +kernel
theorem dX8_goOut_58 : decode cX8_goOut 58 = .ok (.iload 4, 2) := by decide +kernel
theorem dX8_goOut_60 : decode cX8_goOut 60 = .ok (.iadd, 1) := by decide +kernel
theorem dX8_goOut_61 : decode cX8_goOut 61 = .ok (.iconst 1, 1) := by decide +kernel
theorem dX8_goOut_62 : decode cX8_goOut 62 = .ok (.iadd, 1) := by decide +kernel
theorem dX8_goOut_63 : decode cX8_goOut 63 = .ok (.iaload, 1) := by decide +kernel
theorem dX8_goOut_64 : decode cX8_goOut 64 = .ok (.iastore, 1) := by decide +kernel
theorem dX8_goOut_65 : decode cX8_goOut 65 = .ok (.iinc 4 1, 3) := by decide +kernel
theorem dX8_goOut_68 : decode cX8_goOut 68 = .ok (.goto (-37), 3) := by decide +kernel
theorem dX8_goOut_71 : decode cX8_goOut 71 = .ok (.aload_n 1, 1) := by decide +kernel
theorem dX8_goOut_72 : decode cX8_goOut 72 = .ok (.bipush 29, 2) := by decide +kernel
theorem dX8_goOut_74 : decode cX8_goOut 74 = .ok (.iload_n 2, 1) := by decide +kernel
theorem dX8_goOut_75 : decode cX8_goOut 75 = .ok (.imul, 1) := by decide +kernel
theorem dX8_goOut_76 : decode cX8_goOut 76 = .ok (.bipush 27, 2) := by decide +kernel
theorem dX8_goOut_78 : decode cX8_goOut 78 = .ok (.iadd, 1) := by decide +kernel
theorem dX8_goOut_79 : decode cX8_goOut 79 = .ok (.dup2, 1) := by decide +kernel
theorem dX8_goOut_80 : decode cX8_goOut 80 = .ok (.iaload, 1) := by decide +kernel
theorem dX8_goOut_81 : decode cX8_goOut 81 = .ok (.iconst 1, 1) := by decide +kernel
theorem dX8_goOut_82 : decode cX8_goOut 82 = .ok (.iadd, 1) := by decide +kernel
theorem dX8_goOut_83 : decode cX8_goOut 83 = .ok (.iastore, 1) := by decide +kernel
theorem dX8_goOut_84 : decode cX8_goOut 84 = .ok (.return_, 1) := by decide +kernel
theorem dX8_comeTo_0 : decode cX8_comeTo 0 = .ok (.aload_n 1, 1) := by decide +kernel
theorem dX8_comeTo_1 : decode cX8_comeTo 1 = .ok (.bipush 29, 2) := by decide +kernel
theorem dX8_comeTo_3 : decode cX8_comeTo 3 = .ok (.iload_n 2, 1) := by decide +kernel
theorem dX8_comeTo_4 : decode cX8_comeTo 4 = .ok (.imul, 1) := by decide +kernel
theorem dX8_comeTo_5 : decode cX8_comeTo 5 = .ok (.bipush 9, 2) := by decide +kernel
theorem dX8_comeTo_7 : decode cX8_comeTo 7 = .ok (.iadd, 1) := by decide +kernel
theorem dX8_comeTo_8 : decode cX8_comeTo 8 = .ok (.iaload, 1) := by decide +kernel
theorem dX8_comeTo_9 : decode cX8_comeTo 9 = .ok (.aload_n 0, 1) := by decide +kernel
theorem dX8_comeTo_10 : decode cX8_comeTo 10 = .ok (.getfield 29, 3) := by decide +kernel
theorem dX8_comeTo_13 : decode cX8_comeTo 13 = .ok (.iload_n 2, 1) := by decide +kernel
theorem dX8_comeTo_14 : decode cX8_comeTo 14 = .ok (.iaload, 1) := by decide +kernel
theorem dX8_comeTo_15 : decode cX8_comeTo 15 = .ok (.if_icmp .ne 17, 3) := by decide +kernel
theorem dX8_comeTo_18 : decode cX8_comeTo 18 = .ok (.aload_n 0, 1) := by decide +kernel
theorem dX8_comeTo_19 : decode cX8_comeTo 19 = .ok (.aload_n 1, 1) := by decide +kernel
theorem dX8_comeTo_20 : decode cX8_comeTo 20 = .ok (.iload_n 2, 1) := by decide +kernel
theorem dX8_comeTo_21 : decode cX8_comeTo 21 = .ok (.aload_n 0, 1) := by decide +kernel
theorem dX8_comeTo_22 : decode cX8_comeTo 22 = .ok (.getfield 29, 3) := by decide +kernel
theorem dX8_comeTo_25 : decode cX8_comeTo 25 = .ok (.iload_n 2, 1) := by decide +kernel
theorem dX8_comeTo_26 : decode cX8_comeTo 26 = .ok (.iaload, 1) := by decide +kernel
theorem dX8_comeTo_27 : decode cX8_comeTo 27 = .ok (.iconst 1, 1) := by decide +kernel
theorem dX8_comeTo_28 : decode cX8_comeTo 28 = .ok (.isub, 1) := by decide +kernel
theorem dX8_comeTo_29 : decode cX8_comeTo 29 = .ok (.invokevirtual 176, 3) := by decide +kernel
theorem dX8_comeTo_32 : decode cX8_comeTo 32 = .ok (.aload_n 1, 1) := by decide +kernel
theorem dX8_comeTo_33 : decode cX8_comeTo 33 = .ok (.bipush 29, 2) := by decide +kernel
theorem dX8_comeTo_35 : decode cX8_comeTo 35 = .ok (.iload_n 2, 1) := by decide +kernel
theorem dX8_comeTo_36 : decode cX8_comeTo 36 = .ok (.imul, 1) := by decide +kernel
theorem dX8_comeTo_37 : decode cX8_comeTo 37 = .ok (.aload_n 1, 1) := by decide +kernel
theorem dX8_comeTo_38 : decode cX8_comeTo 38 = .ok (.bipush 29, 2) := by decide +kernel
theorem dX8_comeTo_40 : decode cX8_comeTo 40 = .ok (.iload_n 2, 1) := by decide +kernel
theorem dX8_comeTo_41 : decode cX8_comeTo 41 = .ok (.imul, 1) := by decide +kernel
theorem dX8_comeTo_42 : decode cX8_comeTo 42 = .ok (.bipush 9, 2) := by decide +kernel
theorem dX8_comeTo_44 : decode cX8_comeTo 44 = .ok (.iadd, 1) := by decide +kernel
theorem dX8_comeTo_45 : decode cX8_comeTo 45 = .ok (.iaload, 1) := by decide +kernel
theorem dX8_comeTo_46 : decode cX8_comeTo 46 = .ok (.iadd, 1) := by decide +kernel
theorem dX8_comeTo_47 : decode cX8_comeTo 47 = .ok (.iload_n 3, 1) := by decide +kernel
theorem dX8_comeTo_48 : decode cX8_comeTo 48 = .ok (.iastore, 1) := by decide +kernel
theorem dX8_comeTo_49 : decode cX8_comeTo 49 = .ok (.aload_n 1, 1) := by decide +kernel
theorem dX8_comeTo_50 : decode cX8_comeTo 50 = .ok (.bipush 29, 2) := by decide +kernel
theorem dX8_comeTo_52 : decode cX8_comeTo 52 = .ok (.iload_n 2, 1) := by decide +kernel
theorem dX8_comeTo_53 : decode cX8_comeTo 53 = .ok (.imul, 1) := by decide +kernel
theorem dX8_comeTo_54 : decode cX8_comeTo 54 = .ok (.bipush 9, 2) := by decide +kernel
theorem dX8_comeTo_56 : decode cX8_comeTo 56 = .ok (.iadd, 1) := by decide +kernel
theorem dX8_comeTo_57 : decode cX8_comeTo 57 = .ok (.dup2, 1) := by decide +kernel
theorem dX8_comeTo_58 : decode cX8_comeTo 58 = .ok (.iaload, 1) := by decide +kernel
theorem dX8_comeTo_59 : decode cX8_comeTo 59 = .ok (.iconst 1, 1) := by decide +kernel
theorem dX8_comeTo_60 : decode cX8_comeTo 60 = .ok (.iadd, 1) := by decide +kernel
theorem dX8_comeTo_61 : decode cX8_comeTo 61 = .ok (.iastore, 1) := by decide +kernel
theorem dX8_comeTo_62 : decode cX8_comeTo 62 = .ok (.aload_n 1, 1) := by decide +kernel
theorem dX8_comeTo_63 : decode cX8_comeTo 63 = .ok (.iload_n 2, 1) := by decide +kernel
theorem dX8_comeTo_64 : decode cX8_comeTo 64 = .ok (.aload_n 1, 1) := by decide +kernel
theorem dX8_comeTo_65 : decode cX8_comeTo 65 = .ok (.bipush 29, 2) := by decide +kernel
theorem dX8_comeTo_67 : decode cX8_comeTo 67 = .ok (.iload_n 2, 1) := by decide +kernel
theorem dX8_comeTo_68 : decode cX8_comeTo 68 = .ok (.imul, 1) := by decide +kernel
theorem dX8_comeTo_69 : decode cX8_comeTo 69 = .ok (.bipush 9, 2) := by decide +kernel
theorem dX8_comeTo_71 : decode cX8_comeTo 71 = .ok (.iadd, 1) := by decide +kernel
theorem dX8_comeTo_72 : decode cX8_comeTo 72 = .ok (.iaload, 1) := by decide +kernel
theorem dX8_comeTo_73 : decode cX8_comeTo 73 = .ok (.iconst 1, 1) := by decide +kernel
theorem dX8_comeTo_74 : decode cX8_comeTo 74 = .ok (.isub, 1) := by decide +kernel
theorem dX8_comeTo_75 : decode cX8_comeTo 75 = .ok (.invokestatic 180, 3) := by decide +kernel
theorem dX8_comeTo_78 : decode cX8_comeTo 78 = .ok (.aload_n 0, 1) := by decide +kernel
theorem dX8_comeTo_79 : decode cX8_comeTo 79 = .ok (.aload_n 1, 1) := by decide +kernel
theorem dX8_comeTo_80 : decode cX8_comeTo 80 = .ok (.iload_n 2, 1) := by decide +kernel
theorem dX8_comeTo_81 : decode cX8_comeTo 81 = .ok (.iload_n 3, 1) := by decide +kernel
theorem dX8_comeTo_82 : decode cX8_comeTo 82 = .ok (.iconst 1, 1) := by decide +kernel
theorem dX8_comeTo_83 : decode cX8_comeTo 83 = .ok (.invokevirtual 172, 3) := by decide +kernel
theorem dX8_comeTo_86 : decode cX8_comeTo 86 = .ok (.aload_n 1, 1) := by decide +kernel
theorem dX8_comeTo_87 : decode cX8_comeTo 87 = .ok (.bipush 29, 2) := by decide +kernel
theorem dX8_comeTo_89 : decode cX8_comeTo 89 = .ok (.iload_n 2, 1) := by decide +kernel
theorem dX8_comeTo_90 : decode cX8_comeTo 90 = .ok (.imul, 1) := by decide +kernel
theorem dX8_comeTo_91 : decode cX8_comeTo 91 = .ok (.bipush 27, 2) := by decide +kernel
theorem dX8_comeTo_93 : decode cX8_comeTo 93 = .ok (.iadd, 1) := by decide +kernel
theorem dX8_comeTo_94 : decode cX8_comeTo 94 = .ok (.dup2, 1) := by decide +kernel
theorem dX8_comeTo_95 : decode cX8_comeTo 95 = .ok (.iaload, 1) := by decide +kernel
theorem dX8_comeTo_96 : decode cX8_comeTo 96 = .ok (.iconst 1, 1) := by decide +kernel
theorem dX8_comeTo_97 : decode cX8_comeTo 97 = .ok (.iadd, 1) := by decide +kernel
theorem dX8_comeTo_98 : decode cX8_comeTo 98 = .ok (.iastore, 1) := by decide +kernel
theorem dX8_comeTo_99 : decode cX8_comeTo 99 = .ok (.return_, 1) := by decide +kernel
theorem dX8_sendOn_0 : decode cX8_sendOn 0 = .ok (.aload_n 1, 1) := by decide +kernel
theorem dX8_sendOn_1 : decode cX8_sendOn 1 = .ok (.bipush 29, 2) := by decide +kernel
theorem dX8_sendOn_3 : decode cX8_sendOn 3 = .ok (.iload_n 2, 1) := by decide +kernel
theorem dX8_sendOn_4 : decode cX8_sendOn 4 = .ok (.imul, 1) := by decide +kernel
theorem dX8_sendOn_5 : decode cX8_sendOn 5 = .ok (.bipush 26, 2) := by decide +kernel
theorem dX8_sendOn_7 : decode cX8_sendOn 7 = .ok (.iadd, 1) := by decide +kernel
theorem dX8_sendOn_8 : decode cX8_sendOn 8 = .ok (.aload_n 0, 1) := by decide +kernel
theorem dX8_sendOn_9 : decode cX8_sendOn 9 = .ok (.aload_n 1, 1) := by decide +kernel
theorem dX8_sendOn_10 : decode cX8_sendOn 10 = .ok (.iload_n 2, 1) := by decide +kernel
theorem dX8_sendOn_11 : decode cX8_sendOn 11 = .ok (.invokevirtual 155, 3) := by decide +kernel
theorem dX8_sendOn_14 : decode cX8_sendOn 14 = .ok (.iastore, 1) := by decide +kernel
theorem dX8_sendOn_15 : decode cX8_sendOn 15 = .ok (.aload_n 1, 1) := by decide +kernel
theorem dX8_sendOn_16 : decode cX8_sendOn 16 = .ok (.bipush 29, 2) := by decide +kernel
theorem dX8_sendOn_18 : decode cX8_sendOn 18 = .ok (.iload_n 2, 1) := by decide +kernel
theorem dX8_sendOn_19 : decode cX8_sendOn 19 = .ok (.imul, 1) := by decide +kernel
theorem dX8_sendOn_20 : decode cX8_sendOn 20 = .ok (.bipush 27, 2) := by decide +kernel
theorem dX8_sendOn_22 : decode cX8_sendOn 22 = .ok (.iadd, 1) := by decide +kernel
theorem dX8_sendOn_23 : decode cX8_sendOn 23 = .ok (.iconst 0, 1) := by decide +kernel
theorem dX8_sendOn_24 : decode cX8_sendOn 24 = .ok (.iastore, 1) := by decide +kernel
theorem dX8_sendOn_25 : decode cX8_sendOn 25 = .ok (.aload_n 1, 1) := by decide +kernel
theorem dX8_sendOn_26 : decode cX8_sendOn 26 = .ok (.bipush 120, 2) := by decide +kernel
theorem dX8_sendOn_28 : decode cX8_sendOn 28 = .ok (.dup2, 1) := by decide +kernel
theorem dX8_sendOn_29 : decode cX8_sendOn 29 = .ok (.iaload, 1) := by decide +kernel
theorem dX8_sendOn_30 : decode cX8_sendOn 30 = .ok (.aload_n 0, 1) := by decide +kernel
theorem dX8_sendOn_31 : decode cX8_sendOn 31 = .ok (.getfield 78, 3) := by decide +kernel
theorem dX8_sendOn_34 : decode cX8_sendOn 34 = .ok (.iconst 1, 1) := by decide +kernel
theorem dX8_sendOn_35 : decode cX8_sendOn 35 = .ok (.isub, 1) := by decide +kernel
theorem dX8_sendOn_36 : decode cX8_sendOn 36 = .ok (.iadd, 1) := by decide +kernel
theorem dX8_sendOn_37 : decode cX8_sendOn 37 = .ok (.iastore, 1) := by decide +kernel
theorem dX8_sendOn_38 : decode cX8_sendOn 38 = .ok (.return_, 1) := by decide +kernel
theorem dX8_sendDue_0 : decode cX8_sendDue 0 = .ok (.iconst 0, 1) := by decide +kernel
theorem dX8_sendDue_1 : decode cX8_sendDue 1 = .ok (.istore_n 2, 1) := by decide +kernel
theorem dX8_sendDue_2 : decode cX8_sendDue 2 = .ok (.iload_n 2, 1) := by decide +kernel
theorem dX8_sendDue_3 : decode cX8_sendDue 3 = .ok (.aload_n 0, 1) := by decide +kernel
theorem dX8_sendDue_4 : decode cX8_sendDue 4 = .ok (.getfield 78, 3) := by decide +kernel
theorem dX8_sendDue_7 : decode cX8_sendDue 7 = .ok (.if_icmp .ge 36, 3) := by decide +kernel
theorem dX8_sendDue_10 : decode cX8_sendDue 10 = .ok (.aload_n 1, 1) := by decide +kernel
theorem dX8_sendDue_11 : decode cX8_sendDue 11 = .ok (.bipush 29, 2) := by decide +kernel
theorem dX8_sendDue_13 : decode cX8_sendDue 13 = .ok (.iload_n 2, 1) := by decide +kernel
theorem dX8_sendDue_14 : decode cX8_sendDue 14 = .ok (.imul, 1) := by decide +kernel
theorem dX8_sendDue_15 : decode cX8_sendDue 15 = .ok (.bipush 27, 2) := by decide +kernel
theorem dX8_sendDue_17 : decode cX8_sendDue 17 = .ok (.iadd, 1) := by decide +kernel
theorem dX8_sendDue_18 : decode cX8_sendDue 18 = .ok (.iaload, 1) := by decide +kernel
theorem dX8_sendDue_19 : decode cX8_sendDue 19 = .ok (.aload_n 1, 1) := by decide +kernel
theorem dX8_sendDue_20 : decode cX8_sendDue 20 = .ok (.bipush 29, 2) := by decide +kernel
theorem dX8_sendDue_22 : decode cX8_sendDue 22 = .ok (.iload_n 2, 1) := by decide +kernel
theorem dX8_sendDue_23 : decode cX8_sendDue 23 = .ok (.imul, 1) := by decide +kernel
theorem dX8_sendDue_24 : decode cX8_sendDue 24 = .ok (.bipush 28, 2) := by decide +kernel
theorem dX8_sendDue_26 : decode cX8_sendDue 26 = .ok (.iadd, 1) := by decide +kernel
theorem dX8_sendDue_27 : decode cX8_sendDue 27 = .ok (.iaload, 1) := by decide +kernel
theorem dX8_sendDue_28 : decode cX8_sendDue 28 = .ok (.if_icmp .lt 9, 3) := by decide +kernel
theorem dX8_sendDue_31 : decode cX8_sendDue 31 = .ok (.aload_n 0, 1) := by decide +kernel
theorem dX8_sendDue_32 : decode cX8_sendDue 32 = .ok (.aload_n 1, 1) := by decide +kernel
theorem dX8_sendDue_33 : decode cX8_sendDue 33 = .ok (.iload_n 2, 1) := by decide +kernel
theorem dX8_sendDue_34 : decode cX8_sendDue 34 = .ok (.invokevirtual 183, 3) := by decide +kernel
theorem dX8_sendDue_37 : decode cX8_sendDue 37 = .ok (.iinc 2 1, 3) := by decide +kernel
theorem dX8_sendDue_40 : decode cX8_sendDue 40 = .ok (.goto (-38), 3) := by decide +kernel
theorem dX8_sendDue_43 : decode cX8_sendDue 43 = .ok (.return_, 1) := by decide +kernel
theorem dX8_askOn_0 : decode cX8_askOn 0 = .ok (.aload_n 1, 1) := by decide +kernel
theorem dX8_askOn_1 : decode cX8_askOn 1 = .ok (.iload_n 2, 1) := by decide +kernel
theorem dX8_askOn_2 : decode cX8_askOn 2 = .ok (.iload_n 3, 1) := by decide +kernel
theorem dX8_askOn_3 : decode cX8_askOn 3 = .ok (.invokestatic 115, 3) := by decide +kernel
theorem dX8_askOn_6 : decode cX8_askOn 6 = .ok (.istore 4, 2) := by decide +kernel
theorem dX8_askOn_8 : decode cX8_askOn 8 = .ok (.iload 4, 2) := by decide +kernel
theorem dX8_askOn_10 : decode cX8_askOn 10 = .ok (.bipush (-9), 2) := by decide +kernel
theorem dX8_askOn_12 : decode cX8_askOn 12 = .ok (.if_icmp .eq 18, 3) := by decide +kernel
theorem dX8_askOn_15 : decode cX8_askOn 15 = .ok (.aload_n 1, 1) := by decide +kernel
theorem dX8_askOn_16 : decode cX8_askOn 16 = .ok (.iload_n 2, 1) := by decide +kernel
theorem dX8_askOn_17 : decode cX8_askOn 17 = .ok (.iload 4, 2) := by decide +kernel
theorem dX8_askOn_19 : decode cX8_askOn 19 = .ok (.invokestatic 180, 3) := by decide +kernel
theorem dX8_askOn_22 : decode cX8_askOn 22 = .ok (.aload_n 0, 1) := by decide +kernel
theorem dX8_askOn_23 : decode cX8_askOn 23 = .ok (.aload_n 1, 1) := by decide +kernel
theorem dX8_askOn_24 : decode cX8_askOn 24 = .ok (.invokevirtual 186, 3) := by decide +kernel
theorem dX8_askOn_27 : decode cX8_askOn 27 = .ok (.bipush 10, 2) := by decide +kernel
theorem dX8_askOn_29 : decode cX8_askOn 29 = .ok (.ireturn, 1) := by decide +kernel
theorem dX8_askOn_30 : decode cX8_askOn 30 = .ok (.bipush (-9), 2) := by decide +kernel
theorem dX8_askOn_32 : decode cX8_askOn 32 = .ok (.istore 5, 2) := by decide +kernel
theorem dX8_askOn_34 : decode cX8_askOn 34 = .ok (.iconst 0, 1) := by decide +kernel
theorem dX8_askOn_35 : decode cX8_askOn 35 = .ok (.istore 6, 2) := by decide +kernel
theorem dX8_askOn_37 : decode cX8_askOn 37 = .ok (.iload 6, 2) := by decide +kernel
theorem dX8_askOn_39 : decode cX8_askOn 39 = .ok (.aload_n 0, 1) := by decide +kernel
theorem dX8_askOn_40 : decode cX8_askOn 40 = .ok (.getfield 78, 3) := by decide +kernel
theorem dX8_askOn_43 : decode cX8_askOn 43 = .ok (.if_icmp .ge 80, 3) := by decide +kernel
theorem dX8_askOn_46 : decode cX8_askOn 46 = .ok (.iload 5, 2) := by decide +kernel
theorem dX8_askOn_48 : decode cX8_askOn 48 = .ok (.bipush (-9), 2) := by decide +kernel
theorem dX8_askOn_50 : decode cX8_askOn 50 = .ok (.if_icmp .ne 73, 3) := by decide +kernel
theorem dX8_askOn_53 : decode cX8_askOn 53 = .ok (.iload 6, 2) := by decide +kernel
theorem dX8_askOn_55 : decode cX8_askOn 55 = .ok (.iload_n 2, 1) := by decide +kernel
theorem dX8_askOn_56 : decode cX8_askOn 56 = .ok (.if_icmp .eq 61, 3) := by decide +kernel
theorem dX8_askOn_59 : decode cX8_askOn 59 = .ok (.aload_n 0, 1) := by decide +kernel
theorem dX8_askOn_60 : decode cX8_askOn 60 = .ok (.aload_n 1, 1) := by decide +kernel
theorem dX8_askOn_61 : decode cX8_askOn 61 = .ok (.iload 6, 2) := by decide +kernel
theorem dX8_askOn_63 : decode cX8_askOn 63 = .ok (.iload_n 3, 1) := by decide +kernel
theorem dX8_askOn_64 : decode cX8_askOn 64 = .ok (.invokevirtual 190, 3) := by decide +kernel
theorem dX8_askOn_67 : decode cX8_askOn 67 = .ok (.ifCond .eq 50, 3) := by decide +kernel
theorem dX8_askOn_70 : decode cX8_askOn 70 = .ok (.aload_n 1, 1) := by decide +kernel
theorem dX8_askOn_71 : decode cX8_askOn 71 = .ok (.bipush 117, 2) := by decide +kernel
theorem dX8_askOn_73 : decode cX8_askOn 73 = .ok (.dup2, 1) := by decide +kernel
theorem dX8_askOn_74 : decode cX8_askOn 74 = .ok (.iaload, 1) := by decide +kernel
theorem dX8_askOn_75 : decode cX8_askOn 75 = .ok (.iconst 1, 1) := by decide +kernel
theorem dX8_askOn_76 : decode cX8_askOn 76 = .ok (.iadd, 1) := by decide +kernel
theorem dX8_askOn_77 : decode cX8_askOn 77 = .ok (.iastore, 1) := by decide +kernel
theorem dX8_askOn_78 : decode cX8_askOn 78 = .ok (.aload_n 1, 1) := by decide +kernel
theorem dX8_askOn_79 : decode cX8_askOn 79 = .ok (.iload 6, 2) := by decide +kernel
theorem dX8_askOn_81 : decode cX8_askOn 81 = .ok (.iload_n 3, 1) := by decide +kernel
theorem dX8_askOn_82 : decode cX8_askOn 82 = .ok (.invokestatic 115, 3) := by decide +kernel
theorem dX8_askOn_85 : decode cX8_askOn 85 = .ok (.istore 7, 2) := by decide +kernel
theorem dX8_askOn_87 : decode cX8_askOn 87 = .ok (.iload 7, 2) := by decide +kernel
theorem dX8_askOn_89 : decode cX8_askOn 89 = .ok (.bipush (-9), 2) := by decide +kernel
theorem dX8_askOn_91 : decode cX8_askOn 91 = .ok (.if_icmp .eq 18, 3) := by decide +kernel
theorem dX8_askOn_94 : decode cX8_askOn 94 = .ok (.iload 6, 2) := by decide +kernel
theorem dX8_askOn_96 : decode cX8_askOn 96 = .ok (.istore 5, 2) := by decide +kernel
theorem dX8_askOn_98 : decode cX8_askOn 98 = .ok (.aload_n 1, 1) := by decide +kernel
theorem dX8_askOn_99 : decode cX8_askOn 99 = .ok (.iload 6, 2) := by decide +kernel
theorem dX8_askOn_101 : decode cX8_askOn 101 = .ok (.iload 7, 2) := by decide +kernel
theorem dX8_askOn_103 : decode cX8_askOn 103 = .ok (.invokestatic 180, 3) := by decide +kernel
theorem dX8_askOn_106 : decode cX8_askOn 106 = .ok (.goto 11, 3) := by decide +kernel
theorem dX8_askOn_109 : decode cX8_askOn 109 = .ok (.aload_n 1, 1) := by decide +kernel
theorem dX8_askOn_110 : decode cX8_askOn 110 = .ok (.bipush 118, 2) := by decide +kernel
theorem dX8_askOn_112 : decode cX8_askOn 112 = .ok (.dup2, 1) := by decide +kernel
theorem dX8_askOn_113 : decode cX8_askOn 113 = .ok (.iaload, 1) := by decide +kernel
theorem dX8_askOn_114 : decode cX8_askOn 114 = .ok (.iconst 1, 1) := by decide +kernel
theorem dX8_askOn_115 : decode cX8_askOn 115 = .ok (.iadd, 1) := by decide +kernel
theorem dX8_askOn_116 : decode cX8_askOn 116 = .ok (.iastore, 1) := by decide +kernel
theorem dX8_askOn_117 : decode cX8_askOn 117 = .ok (.iinc 6 1, 3) := by decide +kernel
theorem dX8_askOn_120 : decode cX8_askOn 120 = .ok (.goto (-83), 3) := by decide +kernel
theorem dX8_askOn_123 : decode cX8_askOn 123 = .ok (.aload_n 1, 1) := by decide +kernel
theorem dX8_askOn_124 : decode cX8_askOn 124 = .ok (.bipush 119, 2) := by decide +kernel
theorem dX8_askOn_126 : decode cX8_askOn 126 = .ok (.dup2, 1) := by decide +kernel
theorem dX8_askOn_127 : decode cX8_askOn 127 = .ok (.iaload, 1) := by decide +kernel
theorem dX8_askOn_128 : decode cX8_askOn 128 = .ok (.iload 5, 2) := by decide +kernel
theorem dX8_askOn_130 : decode cX8_askOn 130 = .ok (.bipush (-9), 2) := by decide +kernel
theorem dX8_askOn_132 : decode cX8_askOn 132 = .ok (.if_icmp .ne 7, 3) := by decide +kernel
theorem dX8_askOn_135 : decode cX8_askOn 135 = .ok (.iconst 1, 1) := by decide +kernel
theorem dX8_askOn_136 : decode cX8_askOn 136 = .ok (.goto 4, 3) := by decide +kernel
theorem dX8_askOn_139 : decode cX8_askOn 139 = .ok (.iconst 0, 1) := by decide +kernel
theorem dX8_askOn_140 : decode cX8_askOn 140 = .ok (.iadd, 1) := by decide +kernel
theorem dX8_askOn_141 : decode cX8_askOn 141 = .ok (.iastore, 1) := by decide +kernel
theorem dX8_askOn_142 : decode cX8_askOn 142 = .ok (.aload_n 0, 1) := by decide +kernel
theorem dX8_askOn_143 : decode cX8_askOn 143 = .ok (.aload_n 1, 1) := by decide +kernel
theorem dX8_askOn_144 : decode cX8_askOn 144 = .ok (.iload_n 2, 1) := by decide +kernel
theorem dX8_askOn_145 : decode cX8_askOn 145 = .ok (.iload_n 3, 1) := by decide +kernel
theorem dX8_askOn_146 : decode cX8_askOn 146 = .ok (.invokevirtual 194, 3) := by decide +kernel
theorem dX8_askOn_149 : decode cX8_askOn 149 = .ok (.aload_n 0, 1) := by decide +kernel
theorem dX8_askOn_150 : decode cX8_askOn 150 = .ok (.aload_n 1, 1) := by decide +kernel
theorem dX8_askOn_151 : decode cX8_askOn 151 = .ok (.invokevirtual 186, 3) := by decide +kernel
theorem dX8_askOn_154 : decode cX8_askOn 154 = .ok (.iload 5, 2) := by decide +kernel
theorem dX8_askOn_156 : decode cX8_askOn 156 = .ok (.ireturn, 1) := by decide +kernel
theorem dX8_dropOn_0 : decode cX8_dropOn 0 = .ok (.aload_n 0, 1) := by decide +kernel
theorem dX8_dropOn_1 : decode cX8_dropOn 1 = .ok (.aload_n 1, 1) := by decide +kernel
theorem dX8_dropOn_2 : decode cX8_dropOn 2 = .ok (.iload_n 2, 1) := by decide +kernel
theorem dX8_dropOn_3 : decode cX8_dropOn 3 = .ok (.iload_n 3, 1) := by decide +kernel
theorem dX8_dropOn_4 : decode cX8_dropOn 4 = .ok (.invokevirtual 176, 3) := by decide +kernel
theorem dX8_dropOn_7 : decode cX8_dropOn 7 = .ok (.aload_n 0, 1) := by decide +kernel
theorem dX8_dropOn_8 : decode cX8_dropOn 8 = .ok (.aload_n 1, 1) := by decide +kernel
theorem dX8_dropOn_9 : decode cX8_dropOn 9 = .ok (.invokevirtual 186, 3) := by decide +kernel
theorem dX8_dropOn_12 : decode cX8_dropOn 12 = .ok (.return_, 1) := by decide +kernel
theorem dX8_useOn_0 : decode cX8_useOn 0 = .ok (.aload_n 1, 1) := by decide +kernel
theorem dX8_useOn_1 : decode cX8_useOn 1 = .ok (.bipush 116, 2) := by decide +kernel
theorem dX8_useOn_3 : decode cX8_useOn 3 = .ok (.iload_n 2, 1) := by decide +kernel
theorem dX8_useOn_4 : decode cX8_useOn 4 = .ok (.iastore, 1) := by decide +kernel
theorem dX8_useOn_5 : decode cX8_useOn 5 = .ok (.iconst 0, 1) := by decide +kernel
theorem dX8_useOn_6 : decode cX8_useOn 6 = .ok (.istore_n 3, 1) := by decide +kernel
theorem dX8_useOn_7 : decode cX8_useOn 7 = .ok (.iload_n 3, 1) := by decide +kernel
theorem dX8_useOn_8 : decode cX8_useOn 8 = .ok (.aload_n 0, 1) := by decide +kernel
theorem dX8_useOn_9 : decode cX8_useOn 9 = .ok (.getfield 78, 3) := by decide +kernel
theorem dX8_useOn_12 : decode cX8_useOn 12 = .ok (.if_icmp .ge 15, 3) := by decide +kernel
theorem dX8_useOn_15 : decode cX8_useOn 15 = .ok (.aload_n 0, 1) := by decide +kernel
theorem dX8_useOn_16 : decode cX8_useOn 16 = .ok (.aload_n 1, 1) := by decide +kernel
theorem dX8_useOn_17 : decode cX8_useOn 17 = .ok (.iload_n 3, 1) := by decide +kernel
theorem dX8_useOn_18 : decode cX8_useOn 18 = .ok (.invokevirtual 151, 3) := by decide +kernel
theorem dX8_useOn_21 : decode cX8_useOn 21 = .ok (.iinc 3 1, 3) := by decide +kernel
theorem dX8_useOn_24 : decode cX8_useOn 24 = .ok (.goto (-17), 3) := by decide +kernel
theorem dX8_useOn_27 : decode cX8_useOn 27 = .ok (.iconst 0, 1) := by decide +kernel
theorem dX8_useOn_28 : decode cX8_useOn 28 = .ok (.istore_n 3, 1) := by decide +kernel
theorem dX8_useOn_29 : decode cX8_useOn 29 = .ok (.iload_n 3, 1) := by decide +kernel
theorem dX8_useOn_30 : decode cX8_useOn 30 = .ok (.aload_n 0, 1) := by decide +kernel
theorem dX8_useOn_31 : decode cX8_useOn 31 = .ok (.getfield 78, 3) := by decide +kernel
theorem dX8_useOn_34 : decode cX8_useOn 34 = .ok (.if_icmp .ge 15, 3) := by decide +kernel
theorem dX8_useOn_37 : decode cX8_useOn 37 = .ok (.aload_n 0, 1) := by decide +kernel
theorem dX8_useOn_38 : decode cX8_useOn 38 = .ok (.aload_n 1, 1) := by decide +kernel
theorem dX8_useOn_39 : decode cX8_useOn 39 = .ok (.iload_n 3, 1) := by decide +kernel
theorem dX8_useOn_40 : decode cX8_useOn 40 = .ok (.invokevirtual 183, 3) := by decide +kernel
theorem dX8_useOn_43 : decode cX8_useOn 43 = .ok (.iinc 3 1, 3) := by decide +kernel
theorem dX8_useOn_46 : decode cX8_useOn 46 = .ok (.goto (-17), 3) := by decide +kernel
theorem dX8_useOn_49 : decode cX8_useOn 49 = .ok (.return_, 1) := by decide +kernel
theorem dX8_shelfOf_0 : decode cX8_shelfOf 0 = .ok (.iconst 0, 1) := by decide +kernel
theorem dX8_shelfOf_1 : decode cX8_shelfOf 1 = .ok (.istore_n 2, 1) := by decide +kernel
theorem dX8_shelfOf_2 : decode cX8_shelfOf 2 = .ok (.iconst 0, 1) := by decide +kernel
theorem dX8_shelfOf_3 : decode cX8_shelfOf 3 = .ok (.istore_n 3, 1) := by decide +kernel
theorem dX8_shelfOf_4 : decode cX8_shelfOf 4 = .ok (.iload_n 3, 1) := by decide +kernel
theorem dX8_shelfOf_5 : decode cX8_shelfOf 5 = .ok (.aload_n 0, 1) := by decide +kernel
theorem dX8_shelfOf_6 : decode cX8_shelfOf 6 = .ok (.bipush 29, 2) := by decide +kernel
theorem dX8_shelfOf_8 : decode cX8_shelfOf 8 = .ok (.iload_n 1, 1) := by decide +kernel
theorem dX8_shelfOf_9 : decode cX8_shelfOf 9 = .ok (.imul, 1) := by decide +kernel
theorem dX8_shelfOf_10 : decode cX8_shelfOf 10 = .ok (.bipush 9, 2) := by decide +kernel
theorem dX8_shelfOf_12 : decode cX8_shelfOf 12 = .ok (.iadd, 1) := by decide +kernel
theorem dX8_shelfOf_13 : decode cX8_shelfOf 13 = .ok (.iaload, 1) := by decide +kernel
theorem dX8_shelfOf_14 : decode cX8_shelfOf 14 = .ok (.if_icmp .ge 22, 3) := by decide +kernel
theorem dX8_shelfOf_17 : decode cX8_shelfOf 17 = .ok (.iload_n 2, 1) := by decide +kernel
theorem dX8_shelfOf_18 : decode cX8_shelfOf 18 = .ok (.iconst 1, 1) := by decide +kernel
theorem dX8_shelfOf_19 : decode cX8_shelfOf 19 = .ok (.aload_n 0, 1) := by decide +kernel
theorem dX8_shelfOf_20 : decode cX8_shelfOf 20 = .ok (.bipush 29, 2) := by decide +kernel
theorem dX8_shelfOf_22 : decode cX8_shelfOf 22 = .ok (.iload_n 1, 1) := by decide +kernel
theorem dX8_shelfOf_23 : decode cX8_shelfOf 23 = .ok (.imul, 1) := by decide +kernel
theorem dX8_shelfOf_24 : decode cX8_shelfOf 24 = .ok (.iload_n 3, 1) := by decide +kernel
theorem dX8_shelfOf_25 : decode cX8_shelfOf 25 = .ok (.iadd, 1) := by decide +kernel
theorem dX8_shelfOf_26 : decode cX8_shelfOf 26 = .ok (.iaload, 1) := by decide +kernel
theorem dX8_shelfOf_27 : decode cX8_shelfOf 27 = .ok (.ishl, 1) := by decide +kernel
theorem dX8_shelfOf_28 : decode cX8_shelfOf 28 = .ok (.ior, 1) := by decide +kernel
theorem dX8_shelfOf_29 : decode cX8_shelfOf 29 = .ok (.istore_n 2, 1) := by decide +kernel
theorem dX8_shelfOf_30 : decode cX8_shelfOf 30 = .ok (.iinc 3 1, 3) := by decide +kernel
theorem dX8_shelfOf_33 : decode cX8_shelfOf 33 = .ok (.goto (-29), 3) := by decide +kernel
theorem dX8_shelfOf_36 : decode cX8_shelfOf 36 = .ok (.iload_n 2, 1) := by decide +kernel
theorem dX8_shelfOf_37 : decode cX8_shelfOf 37 = .ok (.ireturn, 1) := by decide +kernel
theorem dX8_falseOnes_0 : decode cX8_falseOnes 0 = .ok (.iconst 0, 1) := by decide +kernel
theorem dX8_falseOnes_1 : decode cX8_falseOnes 1 = .ok (.istore 4, 2) := by decide +kernel
theorem dX8_falseOnes_3 : decode cX8_falseOnes 3 = .ok (.iconst 0, 1) := by decide +kernel
theorem dX8_falseOnes_4 : decode cX8_falseOnes 4 = .ok (.istore 5, 2) := by decide +kernel
theorem dX8_falseOnes_6 : decode cX8_falseOnes 6 = .ok (.iload 5, 2) := by decide +kernel
theorem dX8_falseOnes_8 : decode cX8_falseOnes 8 = .ok (.bipush 32, 2) := by decide +kernel
theorem dX8_falseOnes_10 : decode cX8_falseOnes 10 = .ok (.if_icmp .ge 39, 3) := by decide +kernel
theorem dX8_falseOnes_13 : decode cX8_falseOnes 13 = .ok (.iload 4, 2) := by decide +kernel
theorem dX8_falseOnes_15 : decode cX8_falseOnes 15 = .ok (.iload_n 3, 1) := by decide +kernel
theorem dX8_falseOnes_16 : decode cX8_falseOnes 16 = .ok (.iload 5, 2) := by decide +kernel
theorem dX8_falseOnes_18 : decode cX8_falseOnes 18 = .ok (.invokestatic 166, 3) := by decide +kernel
theorem dX8_falseOnes_21 : decode cX8_falseOnes 21 = .ok (.ifCond .ne 18, 3) := by decide +kernel
theorem dX8_falseOnes_24 : decode cX8_falseOnes 24 = .ok (.aload_n 0, 1) := by decide +kernel
theorem dX8_falseOnes_25 : decode cX8_falseOnes 25 = .ok (.iload_n 1, 1) := by decide +kernel
theorem dX8_falseOnes_26 : decode cX8_falseOnes 26 = .ok (.iload_n 2, 1) := by decide +kernel
theorem dX8_falseOnes_27 : decode cX8_falseOnes 27 = .ok (.iload 5, 2) := by decide +kernel
theorem dX8_falseOnes_29 : decode cX8_falseOnes 29 = .ok (.invokevirtual 169, 3) := by decide +kernel
theorem dX8_falseOnes_32 : decode cX8_falseOnes 32 = .ok (.ifCond .eq 7, 3) := by decide +kernel
theorem dX8_falseOnes_35 : decode cX8_falseOnes 35 = .ok (.iconst 1, 1) := by decide +kernel
theorem dX8_falseOnes_36 : decode cX8_falseOnes 36 = .ok (.goto 4, 3) := by decide +kernel
theorem dX8_falseOnes_39 : decode cX8_falseOnes 39 = .ok (.iconst 0, 1) := by decide +kernel
theorem dX8_falseOnes_40 : decode cX8_falseOnes 40 = .ok (.iadd, 1) := by decide +kernel
theorem dX8_falseOnes_41 : decode cX8_falseOnes 41 = .ok (.istore 4, 2) := by decide +kernel
theorem dX8_falseOnes_43 : decode cX8_falseOnes 43 = .ok (.iinc 5 1, 3) := by decide +kernel
theorem dX8_falseOnes_46 : decode cX8_falseOnes 46 = .ok (.goto (-40), 3) := by decide +kernel
theorem dX8_falseOnes_49 : decode cX8_falseOnes 49 = .ok (.iload 4, 2) := by decide +kernel
theorem dX8_falseOnes_51 : decode cX8_falseOnes 51 = .ok (.ireturn, 1) := by decide +kernel
theorem dX8_denied_0 : decode cX8_denied 0 = .ok (.iconst 0, 1) := by decide +kernel
theorem dX8_denied_1 : decode cX8_denied 1 = .ok (.istore_n 2, 1) := by decide +kernel
theorem dX8_denied_2 : decode cX8_denied 2 = .ok (.iconst 0, 1) := by decide +kernel
theorem dX8_denied_3 : decode cX8_denied 3 = .ok (.istore_n 3, 1) := by decide +kernel
theorem dX8_denied_4 : decode cX8_denied 4 = .ok (.iload_n 3, 1) := by decide +kernel
theorem dX8_denied_5 : decode cX8_denied 5 = .ok (.bipush 32, 2) := by decide +kernel
theorem dX8_denied_7 : decode cX8_denied 7 = .ok (.if_icmp .ge 45, 3) := by decide +kernel
theorem dX8_denied_10 : decode cX8_denied 10 = .ok (.iload_n 2, 1) := by decide +kernel
theorem dX8_denied_11 : decode cX8_denied 11 = .ok (.aload_n 0, 1) := by decide +kernel
theorem dX8_denied_12 : decode cX8_denied 12 = .ok (.getfield 44, 3) := by decide +kernel
theorem dX8_denied_15 : decode cX8_denied 15 = .ok (.iload_n 1, 1) := by decide +kernel
theorem dX8_denied_16 : decode cX8_denied 16 = .ok (.invokestatic 197, 3) := by decide +kernel
theorem dX8_denied_19 : decode cX8_denied 19 = .ok (.iload_n 3, 1) := by decide +kernel
theorem dX8_denied_20 : decode cX8_denied 20 = .ok (.invokestatic 166, 3) := by decide +kernel
theorem dX8_denied_23 : decode cX8_denied 23 = .ok (.ifCond .eq 20, 3) := by decide +kernel
theorem dX8_denied_26 : decode cX8_denied 26 = .ok (.aload_n 0, 1) := by decide +kernel
theorem dX8_denied_27 : decode cX8_denied 27 = .ok (.aload_n 0, 1) := by decide +kernel
theorem dX8_denied_28 : decode cX8_denied 28 = .ok (.getfield 44, 3) := by decide +kernel
theorem dX8_denied_31 : decode cX8_denied 31 = .ok (.iload_n 1, 1) := by decide +kernel
theorem dX8_denied_32 : decode cX8_denied 32 = .ok (.iload_n 3, 1) := by decide +kernel
theorem dX8_denied_33 : decode cX8_denied 33 = .ok (.invokevirtual 190, 3) := by decide +kernel
theorem dX8_denied_36 : decode cX8_denied 36 = .ok (.ifCond .ne 7, 3) := by decide +kernel
theorem dX8_denied_39 : decode cX8_denied 39 = .ok (.iconst 1, 1) := by decide +kernel
theorem dX8_denied_40 : decode cX8_denied 40 = .ok (.goto 4, 3) := by decide +kernel
theorem dX8_denied_43 : decode cX8_denied 43 = .ok (.iconst 0, 1) := by decide +kernel
theorem dX8_denied_44 : decode cX8_denied 44 = .ok (.iadd, 1) := by decide +kernel
theorem dX8_denied_45 : decode cX8_denied 45 = .ok (.istore_n 2, 1) := by decide +kernel
theorem dX8_denied_46 : decode cX8_denied 46 = .ok (.iinc 3 1, 3) := by decide +kernel
theorem dX8_denied_49 : decode cX8_denied 49 = .ok (.goto (-45), 3) := by decide +kernel
theorem dX8_denied_52 : decode cX8_denied 52 = .ok (.iload_n 2, 1) := by decide +kernel
theorem dX8_denied_53 : decode cX8_denied 53 = .ok (.ireturn, 1) := by decide +kernel
theorem dX8_proxy_0 : decode cX8_proxy 0 = .ok (.aload_n 0, 1) := by decide +kernel
theorem dX8_proxy_1 : decode cX8_proxy 1 = .ok (.iconst 0, 1) := by decide +kernel
theorem dX8_proxy_2 : decode cX8_proxy 2 = .ok (.putfield 75, 3) := by decide +kernel
theorem dX8_proxy_5 : decode cX8_proxy 5 = .ok (.aload_n 0, 1) := by decide +kernel
theorem dX8_proxy_6 : decode cX8_proxy 6 = .ok (.iload_n 1, 1) := by decide +kernel
theorem dX8_proxy_7 : decode cX8_proxy 7 = .ok (.invokevirtual 200, 3) := by decide +kernel
theorem dX8_proxy_10 : decode cX8_proxy 10 = .ok (.ifCond .eq 5, 3) := by decide +kernel
theorem dX8_proxy_13 : decode cX8_proxy 13 = .ok (.iconst (-1), 1) := by decide +kernel
theorem dX8_proxy_14 : decode cX8_proxy 14 = .ok (.ireturn, 1) := by decide +kernel
theorem dX8_proxy_15 : decode cX8_proxy 15 = .ok (.bipush 29, 2) := by decide +kernel
theorem dX8_proxy_17 : decode cX8_proxy 17 = .ok (.iload_n 1, 1) := by decide +kernel
theorem dX8_proxy_18 : decode cX8_proxy 18 = .ok (.imul, 1) := by decide +kernel
theorem dX8_proxy_19 : decode cX8_proxy 19 = .ok (.istore_n 3, 1) := by decide +kernel
theorem dX8_proxy_20 : decode cX8_proxy 20 = .ok (.iload_n 2, 1) := by decide +kernel
theorem dX8_proxy_21 : decode cX8_proxy 21 = .ok (.tableswitch 138 0 7 #[47, 54, 64, 74, 84, 94, 123, 129], 47) := by decide +kernel
theorem dX8_proxy_68 : decode cX8_proxy 68 = .ok (.aload_n 0, 1) := by decide +kernel
theorem dX8_proxy_69 : decode cX8_proxy 69 = .ok (.getfield 29, 3) := by decide +kernel
theorem dX8_proxy_72 : decode cX8_proxy 72 = .ok (.iload_n 1, 1) := by decide +kernel
theorem dX8_proxy_73 : decode cX8_proxy 73 = .ok (.iaload, 1) := by decide +kernel
theorem dX8_proxy_74 : decode cX8_proxy 74 = .ok (.ireturn, 1) := by decide +kernel
theorem dX8_proxy_75 : decode cX8_proxy 75 = .ok (.aload_n 0, 1) := by decide +kernel
theorem dX8_proxy_76 : decode cX8_proxy 76 = .ok (.getfield 44, 3) := by decide +kernel
theorem dX8_proxy_79 : decode cX8_proxy 79 = .ok (.iload_n 3, 1) := by decide +kernel
theorem dX8_proxy_80 : decode cX8_proxy 80 = .ok (.bipush 28, 2) := by decide +kernel
theorem dX8_proxy_82 : decode cX8_proxy 82 = .ok (.iadd, 1) := by decide +kernel
theorem dX8_proxy_83 : decode cX8_proxy 83 = .ok (.iaload, 1) := by decide +kernel
theorem dX8_proxy_84 : decode cX8_proxy 84 = .ok (.ireturn, 1) := by decide +kernel
theorem dX8_proxy_85 : decode cX8_proxy 85 = .ok (.aload_n 0, 1) := by decide +kernel
theorem dX8_proxy_86 : decode cX8_proxy 86 = .ok (.getfield 44, 3) := by decide +kernel
theorem dX8_proxy_89 : decode cX8_proxy 89 = .ok (.iload_n 3, 1) := by decide +kernel
theorem dX8_proxy_90 : decode cX8_proxy 90 = .ok (.bipush 9, 2) := by decide +kernel
theorem dX8_proxy_92 : decode cX8_proxy 92 = .ok (.iadd, 1) := by decide +kernel
theorem dX8_proxy_93 : decode cX8_proxy 93 = .ok (.iaload, 1) := by decide +kernel
theorem dX8_proxy_94 : decode cX8_proxy 94 = .ok (.ireturn, 1) := by decide +kernel
theorem dX8_proxy_95 : decode cX8_proxy 95 = .ok (.aload_n 0, 1) := by decide +kernel
theorem dX8_proxy_96 : decode cX8_proxy 96 = .ok (.getfield 44, 3) := by decide +kernel
theorem dX8_proxy_99 : decode cX8_proxy 99 = .ok (.iload_n 3, 1) := by decide +kernel
theorem dX8_proxy_100 : decode cX8_proxy 100 = .ok (.bipush 27, 2) := by decide +kernel
theorem dX8_proxy_102 : decode cX8_proxy 102 = .ok (.iadd, 1) := by decide +kernel
theorem dX8_proxy_103 : decode cX8_proxy 103 = .ok (.iaload, 1) := by decide +kernel
theorem dX8_proxy_104 : decode cX8_proxy 104 = .ok (.ireturn, 1) := by decide +kernel
theorem dX8_proxy_105 : decode cX8_proxy 105 = .ok (.aload_n 0, 1) := by decide +kernel
theorem dX8_proxy_106 : decode cX8_proxy 106 = .ok (.getfield 44, 3) := by decide +kernel
theorem dX8_proxy_109 : decode cX8_proxy 109 = .ok (.iload_n 3, 1) := by decide +kernel
theorem dX8_proxy_110 : decode cX8_proxy 110 = .ok (.bipush 26, 2) := by decide +kernel
theorem dX8_proxy_112 : decode cX8_proxy 112 = .ok (.iadd, 1) := by decide +kernel
theorem dX8_proxy_113 : decode cX8_proxy 113 = .ok (.iaload, 1) := by decide +kernel
theorem dX8_proxy_114 : decode cX8_proxy 114 = .ok (.ireturn, 1) := by decide +kernel
theorem dX8_proxy_115 : decode cX8_proxy 115 = .ok (.aload_n 0, 1) := by decide +kernel
theorem dX8_proxy_116 : decode cX8_proxy 116 = .ok (.aload_n 0, 1) := by decide +kernel
theorem dX8_proxy_117 : decode cX8_proxy 117 = .ok (.getfield 44, 3) := by decide +kernel
theorem dX8_proxy_120 : decode cX8_proxy 120 = .ok (.iload_n 3, 1) := by decide +kernel
theorem dX8_proxy_121 : decode cX8_proxy 121 = .ok (.bipush 26, 2) := by decide +kernel
theorem dX8_proxy_123 : decode cX8_proxy 123 = .ok (.iadd, 1) := by decide +kernel
theorem dX8_proxy_124 : decode cX8_proxy 124 = .ok (.iaload, 1) := by decide +kernel
theorem dX8_proxy_125 : decode cX8_proxy 125 = .ok (.aload_n 0, 1) := by decide +kernel
theorem dX8_proxy_126 : decode cX8_proxy 126 = .ok (.getfield 44, 3) := by decide +kernel
theorem dX8_proxy_129 : decode cX8_proxy 129 = .ok (.bipush 116, 2) := by decide +kernel
theorem dX8_proxy_131 : decode cX8_proxy 131 = .ok (.iaload, 1) := by decide +kernel
theorem dX8_proxy_132 : decode cX8_proxy 132 = .ok (.aload_n 0, 1) := by decide +kernel
theorem dX8_proxy_133 : decode cX8_proxy 133 = .ok (.getfield 44, 3) := by decide +kernel
theorem dX8_proxy_136 : decode cX8_proxy 136 = .ok (.iload_n 1, 1) := by decide +kernel
theorem dX8_proxy_137 : decode cX8_proxy 137 = .ok (.invokestatic 197, 3) := by decide +kernel
theorem dX8_proxy_140 : decode cX8_proxy 140 = .ok (.invokevirtual 203, 3) := by decide +kernel
theorem dX8_proxy_143 : decode cX8_proxy 143 = .ok (.ireturn, 1) := by decide +kernel
theorem dX8_proxy_144 : decode cX8_proxy 144 = .ok (.aload_n 0, 1) := by decide +kernel
theorem dX8_proxy_145 : decode cX8_proxy 145 = .ok (.iload_n 1, 1) := by decide +kernel
theorem dX8_proxy_146 : decode cX8_proxy 146 = .ok (.invokevirtual 206, 3) := by decide +kernel
theorem dX8_proxy_149 : decode cX8_proxy 149 = .ok (.ireturn, 1) := by decide +kernel
theorem dX8_proxy_150 : decode cX8_proxy 150 = .ok (.aload_n 0, 1) := by decide +kernel
theorem dX8_proxy_151 : decode cX8_proxy 151 = .ok (.getfield 44, 3) := by decide +kernel
theorem dX8_proxy_154 : decode cX8_proxy 154 = .ok (.iload_n 1, 1) := by decide +kernel
theorem dX8_proxy_155 : decode cX8_proxy 155 = .ok (.invokestatic 197, 3) := by decide +kernel
theorem dX8_proxy_158 : decode cX8_proxy 158 = .ok (.ireturn, 1) := by decide +kernel
theorem dX8_proxy_159 : decode cX8_proxy 159 = .ok (.bipush (-2), 2) := by decide +kernel
theorem dX8_proxy_161 : decode cX8_proxy 161 = .ok (.ireturn, 1) := by decide +kernel
theorem dX8_page_0 : decode cX8_page 0 = .ok (.aload_n 0, 1) := by decide +kernel
theorem dX8_page_1 : decode cX8_page 1 = .ok (.iconst 0, 1) := by decide +kernel
theorem dX8_page_2 : decode cX8_page 2 = .ok (.putfield 75, 3) := by decide +kernel
theorem dX8_page_5 : decode cX8_page 5 = .ok (.aload_n 0, 1) := by decide +kernel
theorem dX8_page_6 : decode cX8_page 6 = .ok (.iload_n 1, 1) := by decide +kernel
theorem dX8_page_7 : decode cX8_page 7 = .ok (.invokevirtual 200, 3) := by decide +kernel
theorem dX8_page_10 : decode cX8_page 10 = .ok (.ifCond .eq 5, 3) := by decide +kernel
theorem dX8_page_13 : decode cX8_page 13 = .ok (.iconst (-1), 1) := by decide +kernel
theorem dX8_page_14 : decode cX8_page 14 = .ok (.ireturn, 1) := by decide +kernel
theorem dX8_page_15 : decode cX8_page 15 = .ok (.iload_n 2, 1) := by decide +kernel
theorem dX8_page_16 : decode cX8_page 16 = .ok (.i2l, 1) := by decide +kernel
theorem dX8_page_17 : decode cX8_page 17 = .ok (.lconst 0, 1) := by decide +kernel
theorem dX8_page_18 : decode cX8_page 18 = .ok (.ldc2_w 209, 3) := by decide +kernel
theorem dX8_page_21 : decode cX8_page 21 = .ok (.invokestatic 81, 3) := by decide +kernel
theorem dX8_page_24 : decode cX8_page 24 = .ok (.ifCond .ne 6, 3) := by decide +kernel
theorem dX8_page_27 : decode cX8_page 27 = .ok (.bipush (-2), 2) := by decide +kernel
theorem dX8_page_29 : decode cX8_page 29 = .ok (.ireturn, 1) := by decide +kernel
theorem dX8_page_30 : decode cX8_page 30 = .ok (.iload_n 2, 1) := by decide +kernel
theorem dX8_page_31 : decode cX8_page 31 = .ok (.aload_n 0, 1) := by decide +kernel
theorem dX8_page_32 : decode cX8_page 32 = .ok (.getfield 44, 3) := by decide +kernel
theorem dX8_page_35 : decode cX8_page 35 = .ok (.bipush 29, 2) := by decide +kernel
theorem dX8_page_37 : decode cX8_page 37 = .ok (.iload_n 1, 1) := by decide +kernel
theorem dX8_page_38 : decode cX8_page 38 = .ok (.imul, 1) := by decide +kernel
theorem dX8_page_39 : decode cX8_page 39 = .ok (.bipush 9, 2) := by decide +kernel
theorem dX8_page_41 : decode cX8_page 41 = .ok (.iadd, 1) := by decide +kernel
theorem dX8_page_42 : decode cX8_page 42 = .ok (.iaload, 1) := by decide +kernel
theorem dX8_page_43 : decode cX8_page 43 = .ok (.if_icmp .ge 17, 3) := by decide +kernel
theorem dX8_page_46 : decode cX8_page 46 = .ok (.aload_n 0, 1) := by decide +kernel
theorem dX8_page_47 : decode cX8_page 47 = .ok (.getfield 44, 3) := by decide +kernel
theorem dX8_page_50 : decode cX8_page 50 = .ok (.bipush 29, 2) := by decide +kernel
theorem dX8_page_52 : decode cX8_page 52 = .ok (.iload_n 1, 1) := by decide +kernel
theorem dX8_page_53 : decode cX8_page 53 = .ok (.imul, 1) := by decide +kernel
theorem dX8_page_54 : decode cX8_page 54 = .ok (.iload_n 2, 1) := by decide +kernel
theorem dX8_page_55 : decode cX8_page 55 = .ok (.iadd, 1) := by decide +kernel
theorem dX8_page_56 : decode cX8_page 56 = .ok (.iaload, 1) := by decide +kernel
theorem dX8_page_57 : decode cX8_page 57 = .ok (.goto 5, 3) := by decide +kernel
theorem dX8_page_60 : decode cX8_page 60 = .ok (.bipush (-9), 2) := by decide +kernel
theorem dX8_page_62 : decode cX8_page 62 = .ok (.ireturn, 1) := by decide +kernel
theorem dX8_counter_0 : decode cX8_counter 0 = .ok (.aload_n 0, 1) := by decide +kernel
theorem dX8_counter_1 : decode cX8_counter 1 = .ok (.iconst 0, 1) := by decide +kernel
theorem dX8_counter_2 : decode cX8_counter 2 = .ok (.putfield 75, 3) := by decide +kernel
theorem dX8_counter_5 : decode cX8_counter 5 = .ok (.aload_n 0, 1) := by decide +kernel
theorem dX8_counter_6 : decode cX8_counter 6 = .ok (.iload_n 1, 1) := by decide +kernel
theorem dX8_counter_7 : decode cX8_counter 7 = .ok (.invokevirtual 200, 3) := by decide +kernel
theorem dX8_counter_10 : decode cX8_counter 10 = .ok (.ifCond .ne 19, 3) := by decide +kernel
theorem dX8_counter_13 : decode cX8_counter 13 = .ok (.iload_n 2, 1) := by decide +kernel
theorem dX8_counter_14 : decode cX8_counter 14 = .ok (.i2l, 1) := by decide +kernel
theorem dX8_counter_15 : decode cX8_counter 15 = .ok (.lconst 0, 1) := by decide +kernel
theorem dX8_counter_16 : decode cX8_counter 16 = .ok (.aload_n 0, 1) := by decide +kernel
theorem dX8_counter_17 : decode cX8_counter 17 = .ok (.getfield 13, 3) := by decide +kernel
theorem dX8_counter_20 : decode cX8_counter 20 = .ok (.iconst 1, 1) := by decide +kernel
theorem dX8_counter_21 : decode cX8_counter 21 = .ok (.isub, 1) := by decide +kernel
theorem dX8_counter_22 : decode cX8_counter 22 = .ok (.i2l, 1) := by decide +kernel
theorem dX8_counter_23 : decode cX8_counter 23 = .ok (.invokestatic 81, 3) := by decide +kernel
theorem dX8_counter_26 : decode cX8_counter 26 = .ok (.ifCond .ne 7, 3) := by decide +kernel
theorem dX8_counter_29 : decode cX8_counter 29 = .ok (.iconst (-1), 1) := by decide +kernel
theorem dX8_counter_30 : decode cX8_counter 30 = .ok (.goto 17, 3) := by decide +kernel
theorem dX8_counter_33 : decode cX8_counter 33 = .ok (.aload_n 0, 1) := by decide +kernel
theorem dX8_counter_34 : decode cX8_counter 34 = .ok (.getfield 44, 3) := by decide +kernel
theorem dX8_counter_37 : decode cX8_counter 37 = .ok (.bipush 29, 2) := by decide +kernel
theorem dX8_counter_39 : decode cX8_counter 39 = .ok (.iload_n 1, 1) := by decide +kernel
theorem dX8_counter_40 : decode cX8_counter 40 = .ok (.imul, 1) := by decide +kernel
theorem dX8_counter_41 : decode cX8_counter 41 = .ok (.bipush 10, 2) := by decide +kernel
theorem dX8_counter_43 : decode cX8_counter 43 = .ok (.iadd, 1) := by decide +kernel
theorem dX8_counter_44 : decode cX8_counter 44 = .ok (.iload_n 2, 1) := by decide +kernel
theorem dX8_counter_45 : decode cX8_counter 45 = .ok (.iadd, 1) := by decide +kernel
theorem dX8_counter_46 : decode cX8_counter 46 = .ok (.iaload, 1) := by decide +kernel
theorem dX8_counter_47 : decode cX8_counter 47 = .ok (.ireturn, 1) := by decide +kernel
theorem dX8_hash_0 : decode cX8_hash 0 = .ok (.aload_n 0, 1) := by decide +kernel
theorem dX8_hash_1 : decode cX8_hash 1 = .ok (.iconst 0, 1) := by decide +kernel
theorem dX8_hash_2 : decode cX8_hash 2 = .ok (.putfield 75, 3) := by decide +kernel
theorem dX8_hash_5 : decode cX8_hash 5 = .ok (.iload_n 1, 1) := by decide +kernel
theorem dX8_hash_6 : decode cX8_hash 6 = .ok (.i2l, 1) := by decide +kernel
theorem dX8_hash_7 : decode cX8_hash 7 = .ok (.lconst 0, 1) := by decide +kernel
theorem dX8_hash_8 : decode cX8_hash 8 = .ok (.aload_n 0, 1) := by decide +kernel
theorem dX8_hash_9 : decode cX8_hash 9 = .ok (.getfield 20, 3) := by decide +kernel
theorem dX8_hash_12 : decode cX8_hash 12 = .ok (.iconst 1, 1) := by decide +kernel
theorem dX8_hash_13 : decode cX8_hash 13 = .ok (.isub, 1) := by decide +kernel
theorem dX8_hash_14 : decode cX8_hash 14 = .ok (.i2l, 1) := by decide +kernel
theorem dX8_hash_15 : decode cX8_hash 15 = .ok (.invokestatic 81, 3) := by decide +kernel
theorem dX8_hash_18 : decode cX8_hash 18 = .ok (.ifCond .eq 10, 3) := by decide +kernel
theorem dX8_hash_21 : decode cX8_hash 21 = .ok (.iload_n 2, 1) := by decide +kernel
theorem dX8_hash_22 : decode cX8_hash 22 = .ok (.invokestatic 211, 3) := by decide +kernel
theorem dX8_hash_25 : decode cX8_hash 25 = .ok (.ifCond .eq 5, 3) := by decide +kernel
theorem dX8_hash_28 : decode cX8_hash 28 = .ok (.iconst (-1), 1) := by decide +kernel
theorem dX8_hash_29 : decode cX8_hash 29 = .ok (.ireturn, 1) := by decide +kernel
theorem dX8_hash_30 : decode cX8_hash 30 = .ok (.iload_n 3, 1) := by decide +kernel
theorem dX8_hash_31 : decode cX8_hash 31 = .ok (.i2l, 1) := by decide +kernel
theorem dX8_hash_32 : decode cX8_hash 32 = .ok (.lconst 0, 1) := by decide +kernel
theorem dX8_hash_33 : decode cX8_hash 33 = .ok (.aload_n 0, 1) := by decide +kernel
theorem dX8_hash_34 : decode cX8_hash 34 = .ok (.getfield 17, 3) := by decide +kernel
theorem dX8_hash_37 : decode cX8_hash 37 = .ok (.iconst 1, 1) := by decide +kernel
theorem dX8_hash_38 : decode cX8_hash 38 = .ok (.isub, 1) := by decide +kernel
theorem dX8_hash_39 : decode cX8_hash 39 = .ok (.i2l, 1) := by decide +kernel
theorem dX8_hash_40 : decode cX8_hash 40 = .ok (.invokestatic 81, 3) := by decide +kernel
theorem dX8_hash_43 : decode cX8_hash 43 = .ok (.ifCond .eq 13, 3) := by decide +kernel
theorem dX8_hash_46 : decode cX8_hash 46 = .ok (.aload_n 0, 1) := by decide +kernel
theorem dX8_hash_47 : decode cX8_hash 47 = .ok (.iload_n 1, 1) := by decide +kernel
theorem dX8_hash_48 : decode cX8_hash 48 = .ok (.iload_n 2, 1) := by decide +kernel
theorem dX8_hash_49 : decode cX8_hash 49 = .ok (.iload_n 3, 1) := by decide +kernel
theorem dX8_hash_50 : decode cX8_hash 50 = .ok (.invokevirtual 162, 3) := by decide +kernel
theorem dX8_hash_53 : decode cX8_hash 53 = .ok (.goto 5, 3) := by decide +kernel
theorem dX8_hash_56 : decode cX8_hash 56 = .ok (.bipush (-2), 2) := by decide +kernel
theorem dX8_hash_58 : decode cX8_hash 58 = .ok (.ireturn, 1) := by decide +kernel
theorem dX8_says_0 : decode cX8_says 0 = .ok (.aload_n 0, 1) := by decide +kernel
theorem dX8_says_1 : decode cX8_says 1 = .ok (.iconst 0, 1) := by decide +kernel
theorem dX8_says_2 : decode cX8_says 2 = .ok (.putfield 75, 3) := by decide +kernel
theorem dX8_says_5 : decode cX8_says 5 = .ok (.aload_n 0, 1) := by decide +kernel
theorem dX8_says_6 : decode cX8_says 6 = .ok (.iload_n 1, 1) := by decide +kernel
theorem dX8_says_7 : decode cX8_says 7 = .ok (.invokevirtual 200, 3) := by decide +kernel
theorem dX8_says_10 : decode cX8_says 10 = .ok (.ifCond .ne 10, 3) := by decide +kernel
theorem dX8_says_13 : decode cX8_says 13 = .ok (.iload_n 2, 1) := by decide +kernel
theorem dX8_says_14 : decode cX8_says 14 = .ok (.invokestatic 211, 3) := by decide +kernel
theorem dX8_says_17 : decode cX8_says 17 = .ok (.ifCond .eq 5, 3) := by decide +kernel
theorem dX8_says_20 : decode cX8_says 20 = .ok (.iconst (-1), 1) := by decide +kernel
theorem dX8_says_21 : decode cX8_says 21 = .ok (.ireturn, 1) := by decide +kernel
theorem dX8_says_22 : decode cX8_says 22 = .ok (.aload_n 0, 1) := by decide +kernel
theorem dX8_says_23 : decode cX8_says 23 = .ok (.iload_n 3, 1) := by decide +kernel
theorem dX8_says_24 : decode cX8_says 24 = .ok (.ifCond .eq 15, 3) := by decide +kernel
theorem dX8_says_27 : decode cX8_says 27 = .ok (.aload_n 0, 1) := by decide +kernel
theorem dX8_says_28 : decode cX8_says 28 = .ok (.aload_n 0, 1) := by decide +kernel
theorem dX8_says_29 : decode cX8_says 29 = .ok (.getfield 44, 3) := by decide +kernel
theorem dX8_says_32 : decode cX8_says 32 = .ok (.iload_n 1, 1) := by decide +kernel
theorem dX8_says_33 : decode cX8_says 33 = .ok (.invokevirtual 155, 3) := by decide +kernel
theorem dX8_says_36 : decode cX8_says 36 = .ok (.goto 15, 3) := by decide +kernel
theorem dX8_says_39 : decode cX8_says 39 = .ok (.aload_n 0, 1) := by decide +kernel
theorem dX8_says_40 : decode cX8_says 40 = .ok (.getfield 44, 3) := by decide +kernel
theorem dX8_says_43 : decode cX8_says 43 = .ok (.bipush 29, 2) := by decide +kernel
theorem dX8_says_45 : decode cX8_says 45 = .ok (.iload_n 1, 1) := by decide +kernel
theorem dX8_says_46 : decode cX8_says 46 = .ok (.imul, 1) := by decide +kernel
theorem dX8_says_47 : decode cX8_says 47 = .ok (.bipush 26, 2) := by decide +kernel
theorem dX8_says_49 : decode cX8_says 49 = .ok (.iadd, 1) := by decide +kernel
theorem dX8_says_50 : decode cX8_says 50 = .ok (.iaload, 1) := by decide +kernel
theorem dX8_says_51 : decode cX8_says 51 = .ok (.aload_n 0, 1) := by decide +kernel
theorem dX8_says_52 : decode cX8_says 52 = .ok (.getfield 44, 3) := by decide +kernel
theorem dX8_says_55 : decode cX8_says 55 = .ok (.bipush 116, 2) := by decide +kernel
theorem dX8_says_57 : decode cX8_says 57 = .ok (.iaload, 1) := by decide +kernel
theorem dX8_says_58 : decode cX8_says 58 = .ok (.iload_n 2, 1) := by decide +kernel
theorem dX8_says_59 : decode cX8_says 59 = .ok (.invokevirtual 169, 3) := by decide +kernel
theorem dX8_says_62 : decode cX8_says 62 = .ok (.ifCond .eq 7, 3) := by decide +kernel
theorem dX8_says_65 : decode cX8_says 65 = .ok (.iconst 1, 1) := by decide +kernel
theorem dX8_says_66 : decode cX8_says 66 = .ok (.goto 4, 3) := by decide +kernel
theorem dX8_says_69 : decode cX8_says 69 = .ok (.iconst 0, 1) := by decide +kernel
theorem dX8_says_70 : decode cX8_says 70 = .ok (.ireturn, 1) := by decide +kernel
theorem dX8_note_0 : decode cX8_note 0 = .ok (.aload_n 0, 1) := by decide +kernel
theorem dX8_note_1 : decode cX8_note 1 = .ok (.getfield 159, 3) := by decide +kernel
theorem dX8_note_4 : decode cX8_note 4 = .ok (.bipush 14, 2) := by decide +kernel
theorem dX8_note_6 : decode cX8_note 6 = .ok (.if_icmp .ne 43, 3) := by decide +kernel
theorem dX8_note_9 : decode cX8_note 9 = .ok (.iconst 0, 1) := by decide +kernel
theorem dX8_note_10 : decode cX8_note 10 = .ok (.istore_n 1, 1) := by decide +kernel
theorem dX8_note_11 : decode cX8_note 11 = .ok (.iload_n 1, 1) := by decide +kernel
theorem dX8_note_12 : decode cX8_note 12 = .ok (.sipush 1573, 3) := by decide +kernel
theorem dX8_note_15 : decode cX8_note 15 = .ok (.if_icmp .ge 24, 3) := by decide +kernel
theorem dX8_note_18 : decode cX8_note 18 = .ok (.aload_n 0, 1) := by decide +kernel
theorem dX8_note_19 : decode cX8_note 19 = .ok (.getfield 50, 3) := by decide +kernel
theorem dX8_note_22 : decode cX8_note 22 = .ok (.iload_n 1, 1) := by decide +kernel
theorem dX8_note_23 : decode cX8_note 23 = .ok (.aload_n 0, 1) := by decide +kernel
theorem dX8_note_24 : decode cX8_note 24 = .ok (.getfield 50, 3) := by decide +kernel
theorem dX8_note_27 : decode cX8_note 27 = .ok (.iload_n 1, 1) := by decide +kernel
theorem dX8_note_28 : decode cX8_note 28 = .ok (.bipush 121, 2) := by decide +kernel
theorem dX8_note_30 : decode cX8_note 30 = .ok (.iadd, 1) := by decide +kernel
theorem dX8_note_31 : decode cX8_note 31 = .ok (.iaload, 1) := by decide +kernel
theorem dX8_note_32 : decode cX8_note 32 = .ok (.iastore, 1) := by decide +kernel
theorem dX8_note_33 : decode cX8_note 33 = .ok (.iinc 1 1, 3) := by decide +kernel
theorem dX8_note_36 : decode cX8_note 36 = .ok (.goto (-25), 3) := by decide +kernel
theorem dX8_note_39 : decode cX8_note 39 = .ok (.aload_n 0, 1) := by decide +kernel
theorem dX8_note_40 : decode cX8_note 40 = .ok (.dup, 1) := by decide +kernel
theorem dX8_note_41 : decode cX8_note 41 = .ok (.getfield 159, 3) := by decide +kernel
theorem dX8_note_44 : decode cX8_note 44 = .ok (.iconst 1, 1) := by decide +kernel
theorem dX8_note_45 : decode cX8_note 45 = .ok (.isub, 1) := by decide +kernel
theorem dX8_note_46 : decode cX8_note 46 = .ok (.putfield 159, 3) := by decide +kernel
theorem dX8_note_49 : decode cX8_note 49 = .ok (.iconst 0, 1) := by decide +kernel
theorem dX8_note_50 : decode cX8_note 50 = .ok (.istore_n 1, 1) := by decide +kernel
theorem dX8_note_51 : decode cX8_note 51 = .ok (.iload_n 1, 1) := by decide +kernel
theorem dX8_note_52 : decode cX8_note 52 = .ok (.bipush 121, 2) := by decide +kernel
theorem dX8_note_54 : decode cX8_note 54 = .ok (.if_icmp .ge 29, 3) := by decide +kernel
theorem dX8_note_57 : decode cX8_note 57 = .ok (.aload_n 0, 1) := by decide +kernel
theorem dX8_note_58 : decode cX8_note 58 = .ok (.getfield 50, 3) := by decide +kernel
theorem dX8_note_61 : decode cX8_note 61 = .ok (.bipush 121, 2) := by decide +kernel
theorem dX8_note_63 : decode cX8_note 63 = .ok (.aload_n 0, 1) := by decide +kernel
theorem dX8_note_64 : decode cX8_note 64 = .ok (.getfield 159, 3) := by decide +kernel
theorem dX8_note_67 : decode cX8_note 67 = .ok (.imul, 1) := by decide +kernel
theorem dX8_note_68 : decode cX8_note 68 = .ok (.iload_n 1, 1) := by decide +kernel
theorem dX8_note_69 : decode cX8_note 69 = .ok (.iadd, 1) := by decide +kernel
theorem dX8_note_70 : decode cX8_note 70 = .ok (.aload_n 0, 1) := by decide +kernel
theorem dX8_note_71 : decode cX8_note 71 = .ok (.getfield 44, 3) := by decide +kernel
theorem dX8_note_74 : decode cX8_note 74 = .ok (.iload_n 1, 1) := by decide +kernel
theorem dX8_note_75 : decode cX8_note 75 = .ok (.iaload, 1) := by decide +kernel
theorem dX8_note_76 : decode cX8_note 76 = .ok (.iastore, 1) := by decide +kernel
theorem dX8_note_77 : decode cX8_note 77 = .ok (.iinc 1 1, 3) := by decide +kernel
theorem dX8_note_80 : decode cX8_note 80 = .ok (.goto (-29), 3) := by decide +kernel
theorem dX8_note_83 : decode cX8_note 83 = .ok (.aload_n 0, 1) := by decide +kernel
theorem dX8_note_84 : decode cX8_note 84 = .ok (.dup, 1) := by decide +kernel
theorem dX8_note_85 : decode cX8_note 85 = .ok (.getfield 159, 3) := by decide +kernel
theorem dX8_note_88 : decode cX8_note 88 = .ok (.iconst 1, 1) := by decide +kernel
theorem dX8_note_89 : decode cX8_note 89 = .ok (.iadd, 1) := by decide +kernel
theorem dX8_note_90 : decode cX8_note 90 = .ok (.putfield 159, 3) := by decide +kernel
theorem dX8_note_93 : decode cX8_note 93 = .ok (.return_, 1) := by decide +kernel
theorem dX8_ask_0 : decode cX8_ask 0 = .ok (.aload_n 0, 1) := by decide +kernel
theorem dX8_ask_1 : decode cX8_ask 1 = .ok (.iconst 0, 1) := by decide +kernel
theorem dX8_ask_2 : decode cX8_ask 2 = .ok (.putfield 75, 3) := by decide +kernel
theorem dX8_ask_5 : decode cX8_ask 5 = .ok (.aload_n 0, 1) := by decide +kernel
theorem dX8_ask_6 : decode cX8_ask 6 = .ok (.iload_n 1, 1) := by decide +kernel
theorem dX8_ask_7 : decode cX8_ask 7 = .ok (.invokevirtual 200, 3) := by decide +kernel
theorem dX8_ask_10 : decode cX8_ask 10 = .ok (.ifCond .ne 10, 3) := by decide +kernel
theorem dX8_ask_13 : decode cX8_ask 13 = .ok (.iload_n 2, 1) := by decide +kernel
theorem dX8_ask_14 : decode cX8_ask 14 = .ok (.invokestatic 211, 3) := by decide +kernel
theorem dX8_ask_17 : decode cX8_ask 17 = .ok (.ifCond .eq 5, 3) := by decide +kernel
theorem dX8_ask_20 : decode cX8_ask 20 = .ok (.iconst (-1), 1) := by decide +kernel
theorem dX8_ask_21 : decode cX8_ask 21 = .ok (.ireturn, 1) := by decide +kernel
theorem dX8_ask_22 : decode cX8_ask 22 = .ok (.aload_n 0, 1) := by decide +kernel
theorem dX8_ask_23 : decode cX8_ask 23 = .ok (.invokevirtual 214, 3) := by decide +kernel
theorem dX8_ask_26 : decode cX8_ask 26 = .ok (.aload_n 0, 1) := by decide +kernel
theorem dX8_ask_27 : decode cX8_ask 27 = .ok (.aload_n 0, 1) := by decide +kernel
theorem dX8_ask_28 : decode cX8_ask 28 = .ok (.getfield 44, 3) := by decide +kernel
theorem dX8_ask_31 : decode cX8_ask 31 = .ok (.iload_n 1, 1) := by decide +kernel
theorem dX8_ask_32 : decode cX8_ask 32 = .ok (.iload_n 2, 1) := by decide +kernel
theorem dX8_ask_33 : decode cX8_ask 33 = .ok (.invokevirtual 217, 3) := by decide +kernel
theorem dX8_ask_36 : decode cX8_ask 36 = .ok (.ireturn, 1) := by decide +kernel
theorem dX8_drop_0 : decode cX8_drop 0 = .ok (.aload_n 0, 1) := by decide +kernel
theorem dX8_drop_1 : decode cX8_drop 1 = .ok (.iconst 0, 1) := by decide +kernel
theorem dX8_drop_2 : decode cX8_drop 2 = .ok (.putfield 75, 3) := by decide +kernel
theorem dX8_drop_5 : decode cX8_drop 5 = .ok (.aload_n 0, 1) := by decide +kernel
theorem dX8_drop_6 : decode cX8_drop 6 = .ok (.iload_n 1, 1) := by decide +kernel
theorem dX8_drop_7 : decode cX8_drop 7 = .ok (.invokevirtual 200, 3) := by decide +kernel
theorem dX8_drop_10 : decode cX8_drop 10 = .ok (.ifCond .ne 10, 3) := by decide +kernel
theorem dX8_drop_13 : decode cX8_drop 13 = .ok (.iload_n 2, 1) := by decide +kernel
theorem dX8_drop_14 : decode cX8_drop 14 = .ok (.invokestatic 211, 3) := by decide +kernel
theorem dX8_drop_17 : decode cX8_drop 17 = .ok (.ifCond .eq 5, 3) := by decide +kernel
theorem dX8_drop_20 : decode cX8_drop 20 = .ok (.iconst (-1), 1) := by decide +kernel
theorem dX8_drop_21 : decode cX8_drop 21 = .ok (.ireturn, 1) := by decide +kernel
theorem dX8_drop_22 : decode cX8_drop 22 = .ok (.aload_n 0, 1) := by decide +kernel
theorem dX8_drop_23 : decode cX8_drop 23 = .ok (.getfield 44, 3) := by decide +kernel
theorem dX8_drop_26 : decode cX8_drop 26 = .ok (.iload_n 1, 1) := by decide +kernel
theorem dX8_drop_27 : decode cX8_drop 27 = .ok (.iload_n 2, 1) := by decide +kernel
theorem dX8_drop_28 : decode cX8_drop 28 = .ok (.invokestatic 115, 3) := by decide +kernel
theorem dX8_drop_31 : decode cX8_drop 31 = .ok (.istore_n 3, 1) := by decide +kernel
theorem dX8_drop_32 : decode cX8_drop 32 = .ok (.iload_n 3, 1) := by decide +kernel
theorem dX8_drop_33 : decode cX8_drop 33 = .ok (.bipush (-9), 2) := by decide +kernel
theorem dX8_drop_35 : decode cX8_drop 35 = .ok (.if_icmp .ne 6, 3) := by decide +kernel
theorem dX8_drop_38 : decode cX8_drop 38 = .ok (.bipush (-3), 2) := by decide +kernel
theorem dX8_drop_40 : decode cX8_drop 40 = .ok (.ireturn, 1) := by decide +kernel
theorem dX8_drop_41 : decode cX8_drop 41 = .ok (.aload_n 0, 1) := by decide +kernel
theorem dX8_drop_42 : decode cX8_drop 42 = .ok (.invokevirtual 214, 3) := by decide +kernel
theorem dX8_drop_45 : decode cX8_drop 45 = .ok (.aload_n 0, 1) := by decide +kernel
theorem dX8_drop_46 : decode cX8_drop 46 = .ok (.aload_n 0, 1) := by decide +kernel
theorem dX8_drop_47 : decode cX8_drop 47 = .ok (.getfield 44, 3) := by decide +kernel
theorem dX8_drop_50 : decode cX8_drop 50 = .ok (.iload_n 1, 1) := by decide +kernel
theorem dX8_drop_51 : decode cX8_drop 51 = .ok (.iload_n 3, 1) := by decide +kernel
theorem dX8_drop_52 : decode cX8_drop 52 = .ok (.invokevirtual 220, 3) := by decide +kernel
theorem dX8_drop_55 : decode cX8_drop 55 = .ok (.aload_n 0, 1) := by decide +kernel
theorem dX8_drop_56 : decode cX8_drop 56 = .ok (.getfield 44, 3) := by decide +kernel
theorem dX8_drop_59 : decode cX8_drop 59 = .ok (.bipush 29, 2) := by decide +kernel
theorem dX8_drop_61 : decode cX8_drop 61 = .ok (.iload_n 1, 1) := by decide +kernel
theorem dX8_drop_62 : decode cX8_drop 62 = .ok (.imul, 1) := by decide +kernel
theorem dX8_drop_63 : decode cX8_drop 63 = .ok (.bipush 9, 2) := by decide +kernel
theorem dX8_drop_65 : decode cX8_drop 65 = .ok (.iadd, 1) := by decide +kernel
theorem dX8_drop_66 : decode cX8_drop 66 = .ok (.iaload, 1) := by decide +kernel
theorem dX8_drop_67 : decode cX8_drop 67 = .ok (.ireturn, 1) := by decide +kernel
theorem dX8_send_0 : decode cX8_send 0 = .ok (.aload_n 0, 1) := by decide +kernel
theorem dX8_send_1 : decode cX8_send 1 = .ok (.iconst 0, 1) := by decide +kernel
theorem dX8_send_2 : decode cX8_send 2 = .ok (.putfield 75, 3) := by decide +kernel
theorem dX8_send_5 : decode cX8_send 5 = .ok (.aload_n 0, 1) := by decide +kernel
theorem dX8_send_6 : decode cX8_send 6 = .ok (.iload_n 1, 1) := by decide +kernel
theorem dX8_send_7 : decode cX8_send 7 = .ok (.invokevirtual 200, 3) := by decide +kernel
theorem dX8_send_10 : decode cX8_send 10 = .ok (.ifCond .eq 5, 3) := by decide +kernel
theorem dX8_send_13 : decode cX8_send 13 = .ok (.iconst (-1), 1) := by decide +kernel
theorem dX8_send_14 : decode cX8_send 14 = .ok (.ireturn, 1) := by decide +kernel
theorem dX8_send_15 : decode cX8_send 15 = .ok (.aload_n 0, 1) := by decide +kernel
theorem dX8_send_16 : decode cX8_send 16 = .ok (.invokevirtual 214, 3) := by decide +kernel
theorem dX8_send_19 : decode cX8_send 19 = .ok (.aload_n 0, 1) := by decide +kernel
theorem dX8_send_20 : decode cX8_send 20 = .ok (.aload_n 0, 1) := by decide +kernel
theorem dX8_send_21 : decode cX8_send 21 = .ok (.getfield 44, 3) := by decide +kernel
theorem dX8_send_24 : decode cX8_send 24 = .ok (.iload_n 1, 1) := by decide +kernel
theorem dX8_send_25 : decode cX8_send 25 = .ok (.invokevirtual 183, 3) := by decide +kernel
theorem dX8_send_28 : decode cX8_send 28 = .ok (.aload_n 0, 1) := by decide +kernel
theorem dX8_send_29 : decode cX8_send 29 = .ok (.getfield 44, 3) := by decide +kernel
theorem dX8_send_32 : decode cX8_send 32 = .ok (.bipush 29, 2) := by decide +kernel
theorem dX8_send_34 : decode cX8_send 34 = .ok (.iload_n 1, 1) := by decide +kernel
theorem dX8_send_35 : decode cX8_send 35 = .ok (.imul, 1) := by decide +kernel
theorem dX8_send_36 : decode cX8_send 36 = .ok (.bipush 26, 2) := by decide +kernel
theorem dX8_send_38 : decode cX8_send 38 = .ok (.iadd, 1) := by decide +kernel
theorem dX8_send_39 : decode cX8_send 39 = .ok (.iaload, 1) := by decide +kernel
theorem dX8_send_40 : decode cX8_send 40 = .ok (.ireturn, 1) := by decide +kernel
theorem dX8_threshold_0 : decode cX8_threshold 0 = .ok (.aload_n 0, 1) := by decide +kernel
theorem dX8_threshold_1 : decode cX8_threshold 1 = .ok (.iconst 0, 1) := by decide +kernel
theorem dX8_threshold_2 : decode cX8_threshold 2 = .ok (.putfield 75, 3) := by decide +kernel
theorem dX8_threshold_5 : decode cX8_threshold 5 = .ok (.aload_n 0, 1) := by decide +kernel
theorem dX8_threshold_6 : decode cX8_threshold 6 = .ok (.iload_n 1, 1) := by decide +kernel
theorem dX8_threshold_7 : decode cX8_threshold 7 = .ok (.invokevirtual 200, 3) := by decide +kernel
theorem dX8_threshold_10 : decode cX8_threshold 10 = .ok (.ifCond .eq 5, 3) := by decide +kernel
theorem dX8_threshold_13 : decode cX8_threshold 13 = .ok (.iconst (-1), 1) := by decide +kernel
theorem dX8_threshold_14 : decode cX8_threshold 14 = .ok (.ireturn, 1) := by decide +kernel
theorem dX8_threshold_15 : decode cX8_threshold 15 = .ok (.iload_n 2, 1) := by decide +kernel
theorem dX8_threshold_16 : decode cX8_threshold 16 = .ok (.i2l, 1) := by decide +kernel
theorem dX8_threshold_17 : decode cX8_threshold 17 = .ok (.lconst 1, 1) := by decide +kernel
theorem dX8_threshold_18 : decode cX8_threshold 18 = .ok (.ldc2_w 129, 3) := by decide +kernel
theorem dX8_threshold_21 : decode cX8_threshold 21 = .ok (.invokestatic 81, 3) := by decide +kernel
theorem dX8_threshold_24 : decode cX8_threshold 24 = .ok (.ifCond .ne 6, 3) := by decide +kernel
theorem dX8_threshold_27 : decode cX8_threshold 27 = .ok (.bipush (-2), 2) := by decide +kernel
theorem dX8_threshold_29 : decode cX8_threshold 29 = .ok (.ireturn, 1) := by decide +kernel
theorem dX8_threshold_30 : decode cX8_threshold 30 = .ok (.aload_n 0, 1) := by decide +kernel
theorem dX8_threshold_31 : decode cX8_threshold 31 = .ok (.invokevirtual 214, 3) := by decide +kernel
theorem dX8_threshold_34 : decode cX8_threshold 34 = .ok (.aload_n 0, 1) := by decide +kernel
theorem dX8_threshold_35 : decode cX8_threshold 35 = .ok (.getfield 44, 3) := by decide +kernel
theorem dX8_threshold_38 : decode cX8_threshold 38 = .ok (.bipush 29, 2) := by decide +kernel
theorem dX8_threshold_40 : decode cX8_threshold 40 = .ok (.iload_n 1, 1) := by decide +kernel
theorem dX8_threshold_41 : decode cX8_threshold 41 = .ok (.imul, 1) := by decide +kernel
theorem dX8_threshold_42 : decode cX8_threshold 42 = .ok (.bipush 28, 2) := by decide +kernel
theorem dX8_threshold_44 : decode cX8_threshold 44 = .ok (.iadd, 1) := by decide +kernel
theorem dX8_threshold_45 : decode cX8_threshold 45 = .ok (.iaload, 1) := by decide +kernel
theorem dX8_threshold_46 : decode cX8_threshold 46 = .ok (.istore_n 3, 1) := by decide +kernel
theorem dX8_threshold_47 : decode cX8_threshold 47 = .ok (.aload_n 0, 1) := by decide +kernel
theorem dX8_threshold_48 : decode cX8_threshold 48 = .ok (.getfield 44, 3) := by decide +kernel
theorem dX8_threshold_51 : decode cX8_threshold 51 = .ok (.bipush 29, 2) := by decide +kernel
theorem dX8_threshold_53 : decode cX8_threshold 53 = .ok (.iload_n 1, 1) := by decide +kernel
theorem dX8_threshold_54 : decode cX8_threshold 54 = .ok (.imul, 1) := by decide +kernel
theorem dX8_threshold_55 : decode cX8_threshold 55 = .ok (.bipush 28, 2) := by decide +kernel
theorem dX8_threshold_57 : decode cX8_threshold 57 = .ok (.iadd, 1) := by decide +kernel
theorem dX8_threshold_58 : decode cX8_threshold 58 = .ok (.iload_n 2, 1) := by decide +kernel
theorem dX8_threshold_59 : decode cX8_threshold 59 = .ok (.iastore, 1) := by decide +kernel
theorem dX8_threshold_60 : decode cX8_threshold 60 = .ok (.aload_n 0, 1) := by decide +kernel
theorem dX8_threshold_61 : decode cX8_threshold 61 = .ok (.aload_n 0, 1) := by decide +kernel
theorem dX8_threshold_62 : decode cX8_threshold 62 = .ok (.getfield 44, 3) := by decide +kernel
theorem dX8_threshold_65 : decode cX8_threshold 65 = .ok (.invokevirtual 186, 3) := by decide +kernel
theorem dX8_threshold_68 : decode cX8_threshold 68 = .ok (.iload_n 3, 1) := by decide +kernel
theorem dX8_threshold_69 : decode cX8_threshold 69 = .ok (.ireturn, 1) := by decide +kernel
theorem dX8_use_0 : decode cX8_use 0 = .ok (.aload_n 0, 1) := by decide +kernel
theorem dX8_use_1 : decode cX8_use 1 = .ok (.iconst 0, 1) := by decide +kernel
theorem dX8_use_2 : decode cX8_use 2 = .ok (.putfield 75, 3) := by decide +kernel
theorem dX8_use_5 : decode cX8_use 5 = .ok (.iload_n 1, 1) := by decide +kernel
theorem dX8_use_6 : decode cX8_use 6 = .ok (.i2l, 1) := by decide +kernel
theorem dX8_use_7 : decode cX8_use 7 = .ok (.lconst 0, 1) := by decide +kernel
theorem dX8_use_8 : decode cX8_use 8 = .ok (.aload_n 0, 1) := by decide +kernel
theorem dX8_use_9 : decode cX8_use 9 = .ok (.getfield 20, 3) := by decide +kernel
theorem dX8_use_12 : decode cX8_use 12 = .ok (.iconst 1, 1) := by decide +kernel
theorem dX8_use_13 : decode cX8_use 13 = .ok (.isub, 1) := by decide +kernel
theorem dX8_use_14 : decode cX8_use 14 = .ok (.i2l, 1) := by decide +kernel
theorem dX8_use_15 : decode cX8_use 15 = .ok (.invokestatic 81, 3) := by decide +kernel
theorem dX8_use_18 : decode cX8_use 18 = .ok (.ifCond .ne 5, 3) := by decide +kernel
theorem dX8_use_21 : decode cX8_use 21 = .ok (.iconst (-1), 1) := by decide +kernel
theorem dX8_use_22 : decode cX8_use 22 = .ok (.ireturn, 1) := by decide +kernel
theorem dX8_use_23 : decode cX8_use 23 = .ok (.aload_n 0, 1) := by decide +kernel
theorem dX8_use_24 : decode cX8_use 24 = .ok (.invokevirtual 214, 3) := by decide +kernel
theorem dX8_use_27 : decode cX8_use 27 = .ok (.aload_n 0, 1) := by decide +kernel
theorem dX8_use_28 : decode cX8_use 28 = .ok (.getfield 44, 3) := by decide +kernel
theorem dX8_use_31 : decode cX8_use 31 = .ok (.bipush 116, 2) := by decide +kernel
theorem dX8_use_33 : decode cX8_use 33 = .ok (.iaload, 1) := by decide +kernel
theorem dX8_use_34 : decode cX8_use 34 = .ok (.istore_n 2, 1) := by decide +kernel
theorem dX8_use_35 : decode cX8_use 35 = .ok (.aload_n 0, 1) := by decide +kernel
theorem dX8_use_36 : decode cX8_use 36 = .ok (.aload_n 0, 1) := by decide +kernel
theorem dX8_use_37 : decode cX8_use 37 = .ok (.getfield 44, 3) := by decide +kernel
theorem dX8_use_40 : decode cX8_use 40 = .ok (.iload_n 1, 1) := by decide +kernel
theorem dX8_use_41 : decode cX8_use 41 = .ok (.invokevirtual 223, 3) := by decide +kernel
theorem dX8_use_44 : decode cX8_use 44 = .ok (.iload_n 2, 1) := by decide +kernel
theorem dX8_use_45 : decode cX8_use 45 = .ok (.ireturn, 1) := by decide +kernel
theorem dX8_undo_0 : decode cX8_undo 0 = .ok (.aload_n 0, 1) := by decide +kernel
theorem dX8_undo_1 : decode cX8_undo 1 = .ok (.iconst 0, 1) := by decide +kernel
theorem dX8_undo_2 : decode cX8_undo 2 = .ok (.putfield 75, 3) := by decide +kernel
theorem dX8_undo_5 : decode cX8_undo 5 = .ok (.aload_n 0, 1) := by decide +kernel
theorem dX8_undo_6 : decode cX8_undo 6 = .ok (.getfield 159, 3) := by decide +kernel
theorem dX8_undo_9 : decode cX8_undo 9 = .ok (.ifCond .ne 6, 3) := by decide +kernel
theorem dX8_undo_12 : decode cX8_undo 12 = .ok (.bipush (-3), 2) := by decide +kernel
theorem dX8_undo_14 : decode cX8_undo 14 = .ok (.ireturn, 1) := by decide +kernel
theorem dX8_undo_15 : decode cX8_undo 15 = .ok (.aload_n 0, 1) := by decide +kernel
theorem dX8_undo_16 : decode cX8_undo 16 = .ok (.dup, 1) := by decide +kernel
theorem dX8_undo_17 : decode cX8_undo 17 = .ok (.getfield 159, 3) := by decide +kernel
theorem dX8_undo_20 : decode cX8_undo 20 = .ok (.iconst 1, 1) := by decide +kernel
theorem dX8_undo_21 : decode cX8_undo 21 = .ok (.isub, 1) := by decide +kernel
theorem dX8_undo_22 : decode cX8_undo 22 = .ok (.putfield 159, 3) := by decide +kernel
theorem dX8_undo_25 : decode cX8_undo 25 = .ok (.iconst 0, 1) := by decide +kernel
theorem dX8_undo_26 : decode cX8_undo 26 = .ok (.istore_n 1, 1) := by decide +kernel
theorem dX8_undo_27 : decode cX8_undo 27 = .ok (.iload_n 1, 1) := by decide +kernel
theorem dX8_undo_28 : decode cX8_undo 28 = .ok (.bipush 121, 2) := by decide +kernel
theorem dX8_undo_30 : decode cX8_undo 30 = .ok (.if_icmp .ge 29, 3) := by decide +kernel
theorem dX8_undo_33 : decode cX8_undo 33 = .ok (.aload_n 0, 1) := by decide +kernel
theorem dX8_undo_34 : decode cX8_undo 34 = .ok (.getfield 44, 3) := by decide +kernel
theorem dX8_undo_37 : decode cX8_undo 37 = .ok (.iload_n 1, 1) := by decide +kernel
theorem dX8_undo_38 : decode cX8_undo 38 = .ok (.aload_n 0, 1) := by decide +kernel
theorem dX8_undo_39 : decode cX8_undo 39 = .ok (.getfield 50, 3) := by decide +kernel
theorem dX8_undo_42 : decode cX8_undo 42 = .ok (.bipush 121, 2) := by decide +kernel
theorem dX8_undo_44 : decode cX8_undo 44 = .ok (.aload_n 0, 1) := by decide +kernel
theorem dX8_undo_45 : decode cX8_undo 45 = .ok (.getfield 159, 3) := by decide +kernel
theorem dX8_undo_48 : decode cX8_undo 48 = .ok (.imul, 1) := by decide +kernel
theorem dX8_undo_49 : decode cX8_undo 49 = .ok (.iload_n 1, 1) := by decide +kernel
theorem dX8_undo_50 : decode cX8_undo 50 = .ok (.iadd, 1) := by decide +kernel
theorem dX8_undo_51 : decode cX8_undo 51 = .ok (.iaload, 1) := by decide +kernel
theorem dX8_undo_52 : decode cX8_undo 52 = .ok (.iastore, 1) := by decide +kernel
theorem dX8_undo_53 : decode cX8_undo 53 = .ok (.iinc 1 1, 3) := by decide +kernel
theorem dX8_undo_56 : decode cX8_undo 56 = .ok (.goto (-29), 3) := by decide +kernel
theorem dX8_undo_59 : decode cX8_undo 59 = .ok (.aload_n 0, 1) := by decide +kernel
theorem dX8_undo_60 : decode cX8_undo 60 = .ok (.getfield 159, 3) := by decide +kernel
theorem dX8_undo_63 : decode cX8_undo 63 = .ok (.ireturn, 1) := by decide +kernel
theorem dX8_weight_0 : decode cX8_weight 0 = .ok (.aload_n 0, 1) := by decide +kernel
theorem dX8_weight_1 : decode cX8_weight 1 = .ok (.iconst 0, 1) := by decide +kernel
theorem dX8_weight_2 : decode cX8_weight 2 = .ok (.putfield 75, 3) := by decide +kernel
theorem dX8_weight_5 : decode cX8_weight 5 = .ok (.aload_n 0, 1) := by decide +kernel
theorem dX8_weight_6 : decode cX8_weight 6 = .ok (.iload_n 1, 1) := by decide +kernel
theorem dX8_weight_7 : decode cX8_weight 7 = .ok (.invokevirtual 200, 3) := by decide +kernel
theorem dX8_weight_10 : decode cX8_weight 10 = .ok (.ifCond .eq 5, 3) := by decide +kernel
theorem dX8_weight_13 : decode cX8_weight 13 = .ok (.iconst (-1), 1) := by decide +kernel
theorem dX8_weight_14 : decode cX8_weight 14 = .ok (.ireturn, 1) := by decide +kernel
theorem dX8_weight_15 : decode cX8_weight 15 = .ok (.aload_n 0, 1) := by decide +kernel
theorem dX8_weight_16 : decode cX8_weight 16 = .ok (.aload_n 0, 1) := by decide +kernel
theorem dX8_weight_17 : decode cX8_weight 17 = .ok (.getfield 44, 3) := by decide +kernel
theorem dX8_weight_20 : decode cX8_weight 20 = .ok (.iload_n 1, 1) := by decide +kernel
theorem dX8_weight_21 : decode cX8_weight 21 = .ok (.invokevirtual 155, 3) := by decide +kernel
theorem dX8_weight_24 : decode cX8_weight 24 = .ok (.invokestatic 226, 3) := by decide +kernel
theorem dX8_weight_27 : decode cX8_weight 27 = .ok (.i2f, 1) := by decide +kernel
theorem dX8_weight_28 : decode cX8_weight 28 = .ok (.aload_n 0, 1) := by decide +kernel
theorem dX8_weight_29 : decode cX8_weight 29 = .ok (.getfield 13, 3) := by decide +kernel
theorem dX8_weight_32 : decode cX8_weight 32 = .ok (.i2f, 1) := by decide +kernel
theorem dX8_weight_33 : decode cX8_weight 33 = .ok (.fdiv, 1) := by decide +kernel
theorem dX8_weight_34 : decode cX8_weight 34 = .ok (.fstore_n 2, 1) := by decide +kernel
theorem dX8_weight_35 : decode cX8_weight 35 = .ok (.aload_n 0, 1) := by decide +kernel
theorem dX8_weight_36 : decode cX8_weight 36 = .ok (.getfield 17, 3) := by decide +kernel
theorem dX8_weight_39 : decode cX8_weight 39 = .ok (.iconst 1, 1) := by decide +kernel
theorem dX8_weight_40 : decode cX8_weight 40 = .ok (.if_icmp .ne 7, 3) := by decide +kernel
theorem dX8_weight_43 : decode cX8_weight 43 = .ok (.fload_n 2, 1) := by decide +kernel
theorem dX8_weight_44 : decode cX8_weight 44 = .ok (.goto 22, 3) := by decide +kernel
theorem dX8_weight_47 : decode cX8_weight 47 = .ok (.aload_n 0, 1) := by decide +kernel
theorem dX8_weight_48 : decode cX8_weight 48 = .ok (.getfield 17, 3) := by decide +kernel
theorem dX8_weight_51 : decode cX8_weight 51 = .ok (.iconst 2, 1) := by decide +kernel
theorem dX8_weight_52 : decode cX8_weight 52 = .ok (.if_icmp .ne 9, 3) := by decide +kernel
theorem dX8_weight_55 : decode cX8_weight 55 = .ok (.fload_n 2, 1) := by decide +kernel
theorem dX8_weight_56 : decode cX8_weight 56 = .ok (.fload_n 2, 1) := by decide +kernel
theorem dX8_weight_57 : decode cX8_weight 57 = .ok (.fmul, 1) := by decide +kernel
theorem dX8_weight_58 : decode cX8_weight 58 = .ok (.goto 8, 3) := by decide +kernel
theorem dX8_weight_61 : decode cX8_weight 61 = .ok (.fload_n 2, 1) := by decide +kernel
theorem dX8_weight_62 : decode cX8_weight 62 = .ok (.fload_n 2, 1) := by decide +kernel
theorem dX8_weight_63 : decode cX8_weight 63 = .ok (.fmul, 1) := by decide +kernel
theorem dX8_weight_64 : decode cX8_weight 64 = .ok (.fload_n 2, 1) := by decide +kernel
theorem dX8_weight_65 : decode cX8_weight 65 = .ok (.fmul, 1) := by decide +kernel
theorem dX8_weight_66 : decode cX8_weight 66 = .ok (.invokestatic 229, 3) := by decide +kernel
theorem dX8_weight_69 : decode cX8_weight 69 = .ok (.ireturn, 1) := by decide +kernel
theorem dX8_madeBy_0 : decode cX8_madeBy 0 = .ok (.iconst 0, 1) := by decide +kernel
theorem dX8_madeBy_1 : decode cX8_madeBy 1 = .ok (.istore_n 3, 1) := by decide +kernel
theorem dX8_madeBy_2 : decode cX8_madeBy 2 = .ok (.iconst 0, 1) := by decide +kernel
theorem dX8_madeBy_3 : decode cX8_madeBy 3 = .ok (.istore 4, 2) := by decide +kernel
theorem dX8_madeBy_5 : decode cX8_madeBy 5 = .ok (.iload 4, 2) := by decide +kernel
theorem dX8_madeBy_7 : decode cX8_madeBy 7 = .ok (.bipush 32, 2) := by decide +kernel
theorem dX8_madeBy_9 : decode cX8_madeBy 9 = .ok (.if_icmp .ge 54, 3) := by decide +kernel
theorem dX8_madeBy_12 : decode cX8_madeBy 12 = .ok (.iconst 0, 1) := by decide +kernel
theorem dX8_madeBy_13 : decode cX8_madeBy 13 = .ok (.istore 5, 2) := by decide +kernel
theorem dX8_madeBy_15 : decode cX8_madeBy 15 = .ok (.iload 5, 2) := by decide +kernel
theorem dX8_madeBy_17 : decode cX8_madeBy 17 = .ok (.aload_n 0, 1) := by decide +kernel
theorem dX8_madeBy_18 : decode cX8_madeBy 18 = .ok (.getfield 17, 3) := by decide +kernel
theorem dX8_madeBy_21 : decode cX8_madeBy 21 = .ok (.if_icmp .ge 36, 3) := by decide +kernel
theorem dX8_madeBy_24 : decode cX8_madeBy 24 = .ok (.iload_n 3, 1) := by decide +kernel
theorem dX8_madeBy_25 : decode cX8_madeBy 25 = .ok (.iload_n 1, 1) := by decide +kernel
theorem dX8_madeBy_26 : decode cX8_madeBy 26 = .ok (.iload 4, 2) := by decide +kernel
theorem dX8_madeBy_28 : decode cX8_madeBy 28 = .ok (.invokestatic 166, 3) := by decide +kernel
theorem dX8_madeBy_31 : decode cX8_madeBy 31 = .ok (.ifCond .eq 17, 3) := by decide +kernel
theorem dX8_madeBy_34 : decode cX8_madeBy 34 = .ok (.iconst 1, 1) := by decide +kernel
theorem dX8_madeBy_35 : decode cX8_madeBy 35 = .ok (.aload_n 0, 1) := by decide +kernel
theorem dX8_madeBy_36 : decode cX8_madeBy 36 = .ok (.iload_n 2, 1) := by decide +kernel
theorem dX8_madeBy_37 : decode cX8_madeBy 37 = .ok (.iload 4, 2) := by decide +kernel
theorem dX8_madeBy_39 : decode cX8_madeBy 39 = .ok (.iload 5, 2) := by decide +kernel
theorem dX8_madeBy_41 : decode cX8_madeBy 41 = .ok (.invokevirtual 162, 3) := by decide +kernel
theorem dX8_madeBy_44 : decode cX8_madeBy 44 = .ok (.ishl, 1) := by decide +kernel
theorem dX8_madeBy_45 : decode cX8_madeBy 45 = .ok (.goto 4, 3) := by decide +kernel
theorem dX8_madeBy_48 : decode cX8_madeBy 48 = .ok (.iconst 0, 1) := by decide +kernel
theorem dX8_madeBy_49 : decode cX8_madeBy 49 = .ok (.ior, 1) := by decide +kernel
theorem dX8_madeBy_50 : decode cX8_madeBy 50 = .ok (.istore_n 3, 1) := by decide +kernel
theorem dX8_madeBy_51 : decode cX8_madeBy 51 = .ok (.iinc 5 1, 3) := by decide +kernel
theorem dX8_madeBy_54 : decode cX8_madeBy 54 = .ok (.goto (-39), 3) := by decide +kernel
theorem dX8_madeBy_57 : decode cX8_madeBy 57 = .ok (.iinc 4 1, 3) := by decide +kernel
theorem dX8_madeBy_60 : decode cX8_madeBy 60 = .ok (.goto (-55), 3) := by decide +kernel
theorem dX8_madeBy_63 : decode cX8_madeBy 63 = .ok (.iload_n 3, 1) := by decide +kernel
theorem dX8_madeBy_64 : decode cX8_madeBy 64 = .ok (.ireturn, 1) := by decide +kernel
theorem dX8_best_0 : decode cX8_best 0 = .ok (.aload_n 0, 1) := by decide +kernel
theorem dX8_best_1 : decode cX8_best 1 = .ok (.iconst 0, 1) := by decide +kernel
theorem dX8_best_2 : decode cX8_best 2 = .ok (.putfield 75, 3) := by decide +kernel
theorem dX8_best_5 : decode cX8_best 5 = .ok (.aload_n 0, 1) := by decide +kernel
theorem dX8_best_6 : decode cX8_best 6 = .ok (.iload_n 1, 1) := by decide +kernel
theorem dX8_best_7 : decode cX8_best 7 = .ok (.invokevirtual 200, 3) := by decide +kernel
theorem dX8_best_10 : decode cX8_best 10 = .ok (.ifCond .eq 5, 3) := by decide +kernel
theorem dX8_best_13 : decode cX8_best 13 = .ok (.iconst (-1), 1) := by decide +kernel
theorem dX8_best_14 : decode cX8_best 14 = .ok (.ireturn, 1) := by decide +kernel
theorem dX8_best_15 : decode cX8_best 15 = .ok (.iload_n 2, 1) := by decide +kernel
theorem dX8_best_16 : decode cX8_best 16 = .ok (.i2l, 1) := by decide +kernel
theorem dX8_best_17 : decode cX8_best 17 = .ok (.lconst 0, 1) := by decide +kernel
theorem dX8_best_18 : decode cX8_best 18 = .ok (.lconst 1, 1) := by decide +kernel
theorem dX8_best_19 : decode cX8_best 19 = .ok (.invokestatic 81, 3) := by decide +kernel
theorem dX8_best_22 : decode cX8_best 22 = .ok (.ifCond .ne 6, 3) := by decide +kernel
theorem dX8_best_25 : decode cX8_best 25 = .ok (.bipush (-2), 2) := by decide +kernel
theorem dX8_best_27 : decode cX8_best 27 = .ok (.ireturn, 1) := by decide +kernel
theorem dX8_best_28 : decode cX8_best 28 = .ok (.aload_n 0, 1) := by decide +kernel
theorem dX8_best_29 : decode cX8_best 29 = .ok (.getfield 44, 3) := by decide +kernel
theorem dX8_best_32 : decode cX8_best 32 = .ok (.iload_n 1, 1) := by decide +kernel
theorem dX8_best_33 : decode cX8_best 33 = .ok (.invokestatic 197, 3) := by decide +kernel
theorem dX8_best_36 : decode cX8_best 36 = .ok (.istore_n 3, 1) := by decide +kernel
theorem dX8_best_37 : decode cX8_best 37 = .ok (.iconst 0, 1) := by decide +kernel
theorem dX8_best_38 : decode cX8_best 38 = .ok (.istore 4, 2) := by decide +kernel
theorem dX8_best_40 : decode cX8_best 40 = .ok (.bipush 33, 2) := by decide +kernel
theorem dX8_best_42 : decode cX8_best 42 = .ok (.istore 5, 2) := by decide +kernel
theorem dX8_best_44 : decode cX8_best 44 = .ok (.iconst 0, 1) := by decide +kernel
theorem dX8_best_45 : decode cX8_best 45 = .ok (.istore 6, 2) := by decide +kernel
theorem dX8_best_47 : decode cX8_best 47 = .ok (.iload 6, 2) := by decide +kernel
theorem dX8_best_49 : decode cX8_best 49 = .ok (.aload_n 0, 1) := by decide +kernel
theorem dX8_best_50 : decode cX8_best 50 = .ok (.getfield 20, 3) := by decide +kernel
theorem dX8_best_53 : decode cX8_best 53 = .ok (.if_icmp .ge 57, 3) := by decide +kernel
theorem dX8_best_56 : decode cX8_best 56 = .ok (.aload_n 0, 1) := by decide +kernel
theorem dX8_best_57 : decode cX8_best 57 = .ok (.aload_n 0, 1) := by decide +kernel
theorem dX8_best_58 : decode cX8_best 58 = .ok (.iload_n 3, 1) := by decide +kernel
theorem dX8_best_59 : decode cX8_best 59 = .ok (.iload 6, 2) := by decide +kernel
theorem dX8_best_61 : decode cX8_best 61 = .ok (.invokevirtual 235, 3) := by decide +kernel
theorem dX8_best_64 : decode cX8_best 64 = .ok (.iload 6, 2) := by decide +kernel
theorem dX8_best_66 : decode cX8_best 66 = .ok (.iload_n 3, 1) := by decide +kernel
theorem dX8_best_67 : decode cX8_best 67 = .ok (.invokevirtual 203, 3) := by decide +kernel
theorem dX8_best_70 : decode cX8_best 70 = .ok (.istore 7, 2) := by decide +kernel
theorem dX8_best_72 : decode cX8_best 72 = .ok (.iload 7, 2) := by decide +kernel
theorem dX8_best_74 : decode cX8_best 74 = .ok (.iload 5, 2) := by decide +kernel
theorem dX8_best_76 : decode cX8_best 76 = .ok (.if_icmp .ge 8, 3) := by decide +kernel
theorem dX8_best_79 : decode cX8_best 79 = .ok (.iload 6, 2) := by decide +kernel
theorem dX8_best_81 : decode cX8_best 81 = .ok (.goto 5, 3) := by decide +kernel
theorem dX8_best_84 : decode cX8_best 84 = .ok (.iload 4, 2) := by decide +kernel
theorem dX8_best_86 : decode cX8_best 86 = .ok (.istore 4, 2) := by decide +kernel
theorem dX8_best_88 : decode cX8_best 88 = .ok (.iload 7, 2) := by decide +kernel
theorem dX8_best_90 : decode cX8_best 90 = .ok (.iload 5, 2) := by decide +kernel
theorem dX8_best_92 : decode cX8_best 92 = .ok (.if_icmp .ge 8, 3) := by decide +kernel
theorem dX8_best_95 : decode cX8_best 95 = .ok (.iload 7, 2) := by decide +kernel
theorem dX8_best_97 : decode cX8_best 97 = .ok (.goto 5, 3) := by decide +kernel
theorem dX8_best_100 : decode cX8_best 100 = .ok (.iload 5, 2) := by decide +kernel
theorem dX8_best_102 : decode cX8_best 102 = .ok (.istore 5, 2) := by decide +kernel
theorem dX8_best_104 : decode cX8_best 104 = .ok (.iinc 6 1, 3) := by decide +kernel
theorem dX8_best_107 : decode cX8_best 107 = .ok (.goto (-60), 3) := by decide +kernel
theorem dX8_best_110 : decode cX8_best 110 = .ok (.iload_n 2, 1) := by decide +kernel
theorem dX8_best_111 : decode cX8_best 111 = .ok (.ifCond .ne 8, 3) := by decide +kernel
theorem dX8_best_114 : decode cX8_best 114 = .ok (.iload 4, 2) := by decide +kernel
theorem dX8_best_116 : decode cX8_best 116 = .ok (.goto 5, 3) := by decide +kernel
theorem dX8_best_119 : decode cX8_best 119 = .ok (.iload 5, 2) := by decide +kernel
theorem dX8_best_121 : decode cX8_best 121 = .ok (.ireturn, 1) := by decide +kernel
theorem dX8_costOf_0 : decode cX8_costOf 0 = .ok (.aload_n 0, 1) := by decide +kernel
theorem dX8_costOf_1 : decode cX8_costOf 1 = .ok (.bipush 117, 2) := by decide +kernel
theorem dX8_costOf_3 : decode cX8_costOf 3 = .ok (.iaload, 1) := by decide +kernel
theorem dX8_costOf_4 : decode cX8_costOf 4 = .ok (.aload_n 0, 1) := by decide +kernel
theorem dX8_costOf_5 : decode cX8_costOf 5 = .ok (.bipush 120, 2) := by decide +kernel
theorem dX8_costOf_7 : decode cX8_costOf 7 = .ok (.iaload, 1) := by decide +kernel
theorem dX8_costOf_8 : decode cX8_costOf 8 = .ok (.iadd, 1) := by decide +kernel
theorem dX8_costOf_9 : decode cX8_costOf 9 = .ok (.iconst 5, 1) := by decide +kernel
theorem dX8_costOf_10 : decode cX8_costOf 10 = .ok (.aload_n 0, 1) := by decide +kernel
theorem dX8_costOf_11 : decode cX8_costOf 11 = .ok (.bipush 119, 2) := by decide +kernel
theorem dX8_costOf_13 : decode cX8_costOf 13 = .ok (.iaload, 1) := by decide +kernel
theorem dX8_costOf_14 : decode cX8_costOf 14 = .ok (.imul, 1) := by decide +kernel
theorem dX8_costOf_15 : decode cX8_costOf 15 = .ok (.iadd, 1) := by decide +kernel
theorem dX8_costOf_16 : decode cX8_costOf 16 = .ok (.ireturn, 1) := by decide +kernel
theorem dX8_plan_0 : decode cX8_plan 0 = .ok (.aload_n 0, 1) := by decide +kernel
theorem dX8_plan_1 : decode cX8_plan 1 = .ok (.iconst 0, 1) := by decide +kernel
theorem dX8_plan_2 : decode cX8_plan 2 = .ok (.putfield 75, 3) := by decide +kernel
theorem dX8_plan_5 : decode cX8_plan 5 = .ok (.aload_n 0, 1) := by decide +kernel
theorem dX8_plan_6 : decode cX8_plan 6 = .ok (.iload_n 1, 1) := by decide +kernel
theorem dX8_plan_7 : decode cX8_plan 7 = .ok (.invokevirtual 200, 3) := by decide +kernel
theorem dX8_plan_10 : decode cX8_plan 10 = .ok (.ifCond .eq 5, 3) := by decide +kernel
theorem dX8_plan_13 : decode cX8_plan 13 = .ok (.iconst (-1), 1) := by decide +kernel
theorem dX8_plan_14 : decode cX8_plan 14 = .ok (.ireturn, 1) := by decide +kernel
theorem dX8_plan_15 : decode cX8_plan 15 = .ok (.iload_n 2, 1) := by decide +kernel
theorem dX8_plan_16 : decode cX8_plan 16 = .ok (.i2l, 1) := by decide +kernel
theorem dX8_plan_17 : decode cX8_plan 17 = .ok (.lconst 1, 1) := by decide +kernel
theorem dX8_plan_18 : decode cX8_plan 18 = .ok (.ldc2_w 239, 3) := by decide +kernel
theorem dX8_plan_21 : decode cX8_plan 21 = .ok (.invokestatic 81, 3) := by decide +kernel
theorem dX8_plan_24 : decode cX8_plan 24 = .ok (.ifCond .eq 21, 3) := by decide +kernel
theorem dX8_plan_27 : decode cX8_plan 27 = .ok (.iload_n 3, 1) := by decide +kernel
theorem dX8_plan_28 : decode cX8_plan 28 = .ok (.i2l, 1) := by decide +kernel
theorem dX8_plan_29 : decode cX8_plan 29 = .ok (.lconst 0, 1) := by decide +kernel
theorem dX8_plan_30 : decode cX8_plan 30 = .ok (.bipush 100, 2) := by decide +kernel
theorem dX8_plan_32 : decode cX8_plan 32 = .ok (.iload_n 2, 1) := by decide +kernel
theorem dX8_plan_33 : decode cX8_plan 33 = .ok (.invokestatic 241, 3) := by decide +kernel
theorem dX8_plan_36 : decode cX8_plan 36 = .ok (.iconst 1, 1) := by decide +kernel
theorem dX8_plan_37 : decode cX8_plan 37 = .ok (.isub, 1) := by decide +kernel
theorem dX8_plan_38 : decode cX8_plan 38 = .ok (.i2l, 1) := by decide +kernel
theorem dX8_plan_39 : decode cX8_plan 39 = .ok (.invokestatic 81, 3) := by decide +kernel
theorem dX8_plan_42 : decode cX8_plan 42 = .ok (.ifCond .ne 6, 3) := by decide +kernel
theorem dX8_plan_45 : decode cX8_plan 45 = .ok (.bipush (-2), 2) := by decide +kernel
theorem dX8_plan_47 : decode cX8_plan 47 = .ok (.ireturn, 1) := by decide +kernel
theorem dX8_plan_48 : decode cX8_plan 48 = .ok (.iconst 0, 1) := by decide +kernel
theorem dX8_plan_49 : decode cX8_plan 49 = .ok (.istore 4, 2) := by decide +kernel
theorem dX8_plan_51 : decode cX8_plan 51 = .ok (.iload 4, 2) := by decide +kernel
theorem dX8_plan_53 : decode cX8_plan 53 = .ok (.iload_n 2, 1) := by decide +kernel
theorem dX8_plan_54 : decode cX8_plan 54 = .ok (.if_icmp .ge 29, 3) := by decide +kernel
theorem dX8_plan_57 : decode cX8_plan 57 = .ok (.iload_n 3, 1) := by decide +kernel
theorem dX8_plan_58 : decode cX8_plan 58 = .ok (.bipush 100, 2) := by decide +kernel
theorem dX8_plan_60 : decode cX8_plan 60 = .ok (.iload 4, 2) := by decide +kernel
theorem dX8_plan_62 : decode cX8_plan 62 = .ok (.invokestatic 241, 3) := by decide +kernel
theorem dX8_plan_65 : decode cX8_plan 65 = .ok (.idiv, 1) := by decide +kernel
theorem dX8_plan_66 : decode cX8_plan 66 = .ok (.bipush 100, 2) := by decide +kernel
theorem dX8_plan_68 : decode cX8_plan 68 = .ok (.irem, 1) := by decide +kernel
theorem dX8_plan_69 : decode cX8_plan 69 = .ok (.invokestatic 211, 3) := by decide +kernel
theorem dX8_plan_72 : decode cX8_plan 72 = .ok (.ifCond .eq 5, 3) := by decide +kernel
theorem dX8_plan_75 : decode cX8_plan 75 = .ok (.iconst (-1), 1) := by decide +kernel
theorem dX8_plan_76 : decode cX8_plan 76 = .ok (.ireturn, 1) := by decide +kernel
theorem dX8_plan_77 : decode cX8_plan 77 = .ok (.iinc 4 1, 3) := by decide +kernel
theorem dX8_plan_80 : decode cX8_plan 80 = .ok (.goto (-29), 3) := by decide +kernel
theorem dX8_plan_83 : decode cX8_plan 83 = .ok (.aload_n 0, 1) := by decide +kernel
theorem dX8_plan_84 : decode cX8_plan 84 = .ok (.invokevirtual 244, 3) := by decide +kernel
theorem dX8_plan_87 : decode cX8_plan 87 = .ok (.iload_n 2, 1) := by decide +kernel
theorem dX8_plan_88 : decode cX8_plan 88 = .ok (.iconst 1, 1) := by decide +kernel
theorem dX8_plan_89 : decode cX8_plan 89 = .ok (.isub, 1) := by decide +kernel
theorem dX8_plan_90 : decode cX8_plan 90 = .ok (.istore 4, 2) := by decide +kernel
theorem dX8_plan_92 : decode cX8_plan 92 = .ok (.iload 4, 2) := by decide +kernel
theorem dX8_plan_94 : decode cX8_plan 94 = .ok (.ifCond .lt 31, 3) := by decide +kernel
theorem dX8_plan_97 : decode cX8_plan 97 = .ok (.aload_n 0, 1) := by decide +kernel
theorem dX8_plan_98 : decode cX8_plan 98 = .ok (.aload_n 0, 1) := by decide +kernel
theorem dX8_plan_99 : decode cX8_plan 99 = .ok (.getfield 47, 3) := by decide +kernel
theorem dX8_plan_102 : decode cX8_plan 102 = .ok (.iload_n 1, 1) := by decide +kernel
theorem dX8_plan_103 : decode cX8_plan 103 = .ok (.iload_n 3, 1) := by decide +kernel
theorem dX8_plan_104 : decode cX8_plan 104 = .ok (.bipush 100, 2) := by decide +kernel
theorem dX8_plan_106 : decode cX8_plan 106 = .ok (.iload 4, 2) := by decide +kernel
theorem dX8_plan_108 : decode cX8_plan 108 = .ok (.invokestatic 241, 3) := by decide +kernel
theorem dX8_plan_111 : decode cX8_plan 111 = .ok (.idiv, 1) := by decide +kernel
theorem dX8_plan_112 : decode cX8_plan 112 = .ok (.bipush 100, 2) := by decide +kernel
theorem dX8_plan_114 : decode cX8_plan 114 = .ok (.irem, 1) := by decide +kernel
theorem dX8_plan_115 : decode cX8_plan 115 = .ok (.invokevirtual 217, 3) := by decide +kernel
theorem dX8_plan_118 : decode cX8_plan 118 = .ok (.pop, 1) := by decide +kernel
theorem dX8_plan_119 : decode cX8_plan 119 = .ok (.iinc 4 (-1), 3) := by decide +kernel
theorem dX8_plan_122 : decode cX8_plan 122 = .ok (.goto (-30), 3) := by decide +kernel
theorem dX8_plan_125 : decode cX8_plan 125 = .ok (.aload_n 0, 1) := by decide +kernel
theorem dX8_plan_126 : decode cX8_plan 126 = .ok (.getfield 47, 3) := by decide +kernel
theorem dX8_plan_129 : decode cX8_plan 129 = .ok (.invokestatic 247, 3) := by decide +kernel
theorem dX8_plan_132 : decode cX8_plan 132 = .ok (.aload_n 0, 1) := by decide +kernel
theorem dX8_plan_133 : decode cX8_plan 133 = .ok (.getfield 44, 3) := by decide +kernel
theorem dX8_plan_136 : decode cX8_plan 136 = .ok (.invokestatic 247, 3) := by decide +kernel
theorem dX8_plan_139 : decode cX8_plan 139 = .ok (.isub, 1) := by decide +kernel
theorem dX8_plan_140 : decode cX8_plan 140 = .ok (.ireturn, 1) := by decide +kernel
theorem dX8_layOrder_0 : decode cX8_layOrder 0 = .ok (.iload_n 1, 1) := by decide +kernel
theorem dX8_layOrder_1 : decode cX8_layOrder 1 = .ok (.istore 4, 2) := by decide +kernel
theorem dX8_layOrder_3 : decode cX8_layOrder 3 = .ok (.iload_n 3, 1) := by decide +kernel
theorem dX8_layOrder_4 : decode cX8_layOrder 4 = .ok (.istore 5, 2) := by decide +kernel
theorem dX8_layOrder_6 : decode cX8_layOrder 6 = .ok (.iconst 1, 1) := by decide +kernel
theorem dX8_layOrder_7 : decode cX8_layOrder 7 = .ok (.istore 6, 2) := by decide +kernel
theorem dX8_layOrder_9 : decode cX8_layOrder 9 = .ok (.iconst 2, 1) := by decide +kernel
theorem dX8_layOrder_10 : decode cX8_layOrder 10 = .ok (.istore 7, 2) := by decide +kernel
theorem dX8_layOrder_12 : decode cX8_layOrder 12 = .ok (.iload 7, 2) := by decide +kernel
theorem dX8_layOrder_14 : decode cX8_layOrder 14 = .ok (.iload_n 2, 1) := by decide +kernel
theorem dX8_layOrder_15 : decode cX8_layOrder 15 = .ok (.if_icmp .gt 16, 3) := by decide +kernel
theorem dX8_layOrder_18 : decode cX8_layOrder 18 = .ok (.iload 6, 2) := by decide +kernel
theorem dX8_layOrder_20 : decode cX8_layOrder 20 = .ok (.iload 7, 2) := by decide +kernel
theorem dX8_layOrder_22 : decode cX8_layOrder 22 = .ok (.imul, 1) := by decide +kernel
theorem dX8_layOrder_23 : decode cX8_layOrder 23 = .ok (.istore 6, 2) := by decide +kernel
theorem dX8_layOrder_25 : decode cX8_layOrder 25 = .ok (.iinc 7 1, 3) := by decide +kernel
theorem dX8_layOrder_28 : decode cX8_layOrder 28 = .ok (.goto (-16), 3) := by decide +kernel
theorem dX8_layOrder_31 : decode cX8_layOrder 31 = .ok (.iconst 0, 1) := by decide +kernel
theorem dX8_layOrder_32 : decode cX8_layOrder 32 = .ok (.istore 7, 2) := by decide +kernel
theorem dX8_layOrder_34 : decode cX8_layOrder 34 = .ok (.iload 7, 2) := by decide +kernel
theorem dX8_layOrder_36 : decode cX8_layOrder 36 = .ok (.iload_n 2, 1) := by decide +kernel
theorem dX8_layOrder_37 : decode cX8_layOrder 37 = .ok (.if_icmp .ge 96, 3) := by decide +kernel
theorem dX8_layOrder_40 : decode cX8_layOrder 40 = .ok (.iload 6, 2) := by decide +kernel
theorem dX8_layOrder_42 : decode cX8_layOrder 42 = .ok (.iload_n 2, 1) := by decide +kernel
theorem dX8_layOrder_43 : decode cX8_layOrder 43 = .ok (.iload 7, 2) := by decide +kernel
theorem dX8_layOrder_45 : decode cX8_layOrder 45 = .ok (.isub, 1) := by decide +kernel
theorem dX8_layOrder_46 : decode cX8_layOrder 46 = .ok (.idiv, 1) := by decide +kernel
theorem dX8_layOrder_47 : decode cX8_layOrder 47 = .ok (.istore 6, 2) := by decide +kernel
theorem dX8_layOrder_49 : decode cX8_layOrder 49 = .ok (.iload 5, 2) := by decide +kernel
theorem dX8_layOrder_51 : decode cX8_layOrder 51 = .ok (.iload 6, 2) := by decide +kernel
theorem dX8_layOrder_53 : decode cX8_layOrder 53 = .ok (.idiv, 1) := by decide +kernel
theorem dX8_layOrder_54 : decode cX8_layOrder 54 = .ok (.istore 8, 2) := by decide +kernel
theorem dX8_layOrder_56 : decode cX8_layOrder 56 = .ok (.iload 5, 2) := by decide +kernel
theorem dX8_layOrder_58 : decode cX8_layOrder 58 = .ok (.iload 6, 2) := by decide +kernel
theorem dX8_layOrder_60 : decode cX8_layOrder 60 = .ok (.irem, 1) := by decide +kernel
theorem dX8_layOrder_61 : decode cX8_layOrder 61 = .ok (.istore 5, 2) := by decide +kernel
theorem dX8_layOrder_63 : decode cX8_layOrder 63 = .ok (.iconst 0, 1) := by decide +kernel
theorem dX8_layOrder_64 : decode cX8_layOrder 64 = .ok (.istore 9, 2) := by decide +kernel
theorem dX8_layOrder_66 : decode cX8_layOrder 66 = .ok (.iload 4, 2) := by decide +kernel
theorem dX8_layOrder_68 : decode cX8_layOrder 68 = .ok (.iload 9, 2) := by decide +kernel
theorem dX8_layOrder_70 : decode cX8_layOrder 70 = .ok (.invokestatic 166, 3) := by decide +kernel
theorem dX8_layOrder_73 : decode cX8_layOrder 73 = .ok (.ifCond .eq 8, 3) := by decide +kernel
theorem dX8_layOrder_76 : decode cX8_layOrder 76 = .ok (.iload 8, 2) := by decide +kernel
theorem dX8_layOrder_78 : decode cX8_layOrder 78 = .ok (.ifCond .le 29, 3) := by decide +kernel
theorem dX8_layOrder_81 : decode cX8_layOrder 81 = .ok (.iload 8, 2) := by decide +kernel
theorem dX8_layOrder_83 : decode cX8_layOrder 83 = .ok (.iload 4, 2) := by decide +kernel
theorem dX8_layOrder_85 : decode cX8_layOrder 85 = .ok (.iload 9, 2) := by decide +kernel
theorem dX8_layOrder_87 : decode cX8_layOrder 87 = .ok (.invokestatic 166, 3) := by decide +kernel
theorem dX8_layOrder_90 : decode cX8_layOrder 90 = .ok (.ifCond .eq 7, 3) := by decide +kernel
theorem dX8_layOrder_93 : decode cX8_layOrder 93 = .ok (.iconst 1, 1) := by decide +kernel
theorem dX8_layOrder_94 : decode cX8_layOrder 94 = .ok (.goto 4, 3) := by decide +kernel
theorem dX8_layOrder_97 : decode cX8_layOrder 97 = .ok (.iconst 0, 1) := by decide +kernel
theorem dX8_layOrder_98 : decode cX8_layOrder 98 = .ok (.isub, 1) := by decide +kernel
theorem dX8_layOrder_99 : decode cX8_layOrder 99 = .ok (.istore 8, 2) := by decide +kernel
theorem dX8_layOrder_101 : decode cX8_layOrder 101 = .ok (.iinc 9 1, 3) := by decide +kernel
theorem dX8_layOrder_104 : decode cX8_layOrder 104 = .ok (.goto (-38), 3) := by decide +kernel
theorem dX8_layOrder_107 : decode cX8_layOrder 107 = .ok (.aload_n 0, 1) := by decide +kernel
theorem dX8_layOrder_108 : decode cX8_layOrder 108 = .ok (.getfield 69, 3) := by decide +kernel
theorem dX8_layOrder_111 : decode cX8_layOrder 111 = .ok (.iload 7, 2) := by decide +kernel
theorem dX8_layOrder_113 : decode cX8_layOrder 113 = .ok (.iload 9, 2) := by decide +kernel
theorem dX8_layOrder_115 : decode cX8_layOrder 115 = .ok (.iastore, 1) := by decide +kernel
theorem dX8_layOrder_116 : decode cX8_layOrder 116 = .ok (.iload 4, 2) := by decide +kernel
theorem dX8_layOrder_118 : decode cX8_layOrder 118 = .ok (.iconst 1, 1) := by decide +kernel
theorem dX8_layOrder_119 : decode cX8_layOrder 119 = .ok (.iload 9, 2) := by decide +kernel
theorem dX8_layOrder_121 : decode cX8_layOrder 121 = .ok (.ishl, 1) := by decide +kernel
theorem dX8_layOrder_122 : decode cX8_layOrder 122 = .ok (.iconst (-1), 1) := by decide +kernel
theorem dX8_layOrder_123 : decode cX8_layOrder 123 = .ok (.ixor, 1) := by decide +kernel
theorem dX8_layOrder_124 : decode cX8_layOrder 124 = .ok (.iand, 1) := by decide +kernel
theorem dX8_layOrder_125 : decode cX8_layOrder 125 = .ok (.istore 4, 2) := by decide +kernel
theorem dX8_layOrder_127 : decode cX8_layOrder 127 = .ok (.iinc 7 1, 3) := by decide +kernel
theorem dX8_layOrder_130 : decode cX8_layOrder 130 = .ok (.goto (-96), 3) := by decide +kernel
theorem dX8_layOrder_133 : decode cX8_layOrder 133 = .ok (.return_, 1) := by decide +kernel
theorem dX8_layBest_0 : decode cX8_layBest 0 = .ok (.iload_n 2, 1) := by decide +kernel
theorem dX8_layBest_1 : decode cX8_layBest 1 = .ok (.invokestatic 226, 3) := by decide +kernel
theorem dX8_layBest_4 : decode cX8_layBest 4 = .ok (.istore_n 3, 1) := by decide +kernel
theorem dX8_layBest_5 : decode cX8_layBest 5 = .ok (.iconst 1, 1) := by decide +kernel
theorem dX8_layBest_6 : decode cX8_layBest 6 = .ok (.istore 4, 2) := by decide +kernel
theorem dX8_layBest_8 : decode cX8_layBest 8 = .ok (.iconst 2, 1) := by decide +kernel
theorem dX8_layBest_9 : decode cX8_layBest 9 = .ok (.istore 5, 2) := by decide +kernel
theorem dX8_layBest_11 : decode cX8_layBest 11 = .ok (.iload 5, 2) := by decide +kernel
theorem dX8_layBest_13 : decode cX8_layBest 13 = .ok (.iload_n 3, 1) := by decide +kernel
theorem dX8_layBest_14 : decode cX8_layBest 14 = .ok (.if_icmp .gt 16, 3) := by decide +kernel
theorem dX8_layBest_17 : decode cX8_layBest 17 = .ok (.iload 4, 2) := by decide +kernel
theorem dX8_layBest_19 : decode cX8_layBest 19 = .ok (.iload 5, 2) := by decide +kernel
theorem dX8_layBest_21 : decode cX8_layBest 21 = .ok (.imul, 1) := by decide +kernel
theorem dX8_layBest_22 : decode cX8_layBest 22 = .ok (.istore 4, 2) := by decide +kernel
theorem dX8_layBest_24 : decode cX8_layBest 24 = .ok (.iinc 5 1, 3) := by decide +kernel
theorem dX8_layBest_27 : decode cX8_layBest 27 = .ok (.goto (-16), 3) := by decide +kernel
theorem dX8_layBest_30 : decode cX8_layBest 30 = .ok (.aload_n 0, 1) := by decide +kernel
theorem dX8_layBest_31 : decode cX8_layBest 31 = .ok (.bipush (-9), 2) := by decide +kernel
theorem dX8_layBest_33 : decode cX8_layBest 33 = .ok (.putfield 251, 3) := by decide +kernel
theorem dX8_layBest_36 : decode cX8_layBest 36 = .ok (.iconst 0, 1) := by decide +kernel
theorem dX8_layBest_37 : decode cX8_layBest 37 = .ok (.istore 5, 2) := by decide +kernel
theorem dX8_layBest_39 : decode cX8_layBest 39 = .ok (.iload 5, 2) := by decide +kernel
theorem dX8_layBest_41 : decode cX8_layBest 41 = .ok (.iload 4, 2) := by decide +kernel
theorem dX8_layBest_43 : decode cX8_layBest 43 = .ok (.if_icmp .ge 119, 3) := by decide +kernel
theorem dX8_layBest_46 : decode cX8_layBest 46 = .ok (.aload_n 0, 1) := by decide +kernel
theorem dX8_layBest_47 : decode cX8_layBest 47 = .ok (.iload_n 2, 1) := by decide +kernel
theorem dX8_layBest_48 : decode cX8_layBest 48 = .ok (.iload_n 3, 1) := by decide +kernel
theorem dX8_layBest_49 : decode cX8_layBest 49 = .ok (.iload 5, 2) := by decide +kernel
theorem dX8_layBest_51 : decode cX8_layBest 51 = .ok (.invokevirtual 254, 3) := by decide +kernel
theorem dX8_layBest_54 : decode cX8_layBest 54 = .ok (.aload_n 0, 1) := by decide +kernel
theorem dX8_layBest_55 : decode cX8_layBest 55 = .ok (.invokevirtual 244, 3) := by decide +kernel
theorem dX8_layBest_58 : decode cX8_layBest 58 = .ok (.iconst 0, 1) := by decide +kernel
theorem dX8_layBest_59 : decode cX8_layBest 59 = .ok (.istore 6, 2) := by decide +kernel
theorem dX8_layBest_61 : decode cX8_layBest 61 = .ok (.iload 6, 2) := by decide +kernel
theorem dX8_layBest_63 : decode cX8_layBest 63 = .ok (.iload_n 3, 1) := by decide +kernel
theorem dX8_layBest_64 : decode cX8_layBest 64 = .ok (.if_icmp .ge 26, 3) := by decide +kernel
theorem dX8_layBest_67 : decode cX8_layBest 67 = .ok (.aload_n 0, 1) := by decide +kernel
theorem dX8_layBest_68 : decode cX8_layBest 68 = .ok (.aload_n 0, 1) := by decide +kernel
theorem dX8_layBest_69 : decode cX8_layBest 69 = .ok (.getfield 47, 3) := by decide +kernel
theorem dX8_layBest_72 : decode cX8_layBest 72 = .ok (.iload_n 1, 1) := by decide +kernel
theorem dX8_layBest_73 : decode cX8_layBest 73 = .ok (.aload_n 0, 1) := by decide +kernel
theorem dX8_layBest_74 : decode cX8_layBest 74 = .ok (.getfield 69, 3) := by decide +kernel
theorem dX8_layBest_77 : decode cX8_layBest 77 = .ok (.iload 6, 2) := by decide +kernel
theorem dX8_layBest_79 : decode cX8_layBest 79 = .ok (.iaload, 1) := by decide +kernel
theorem dX8_layBest_80 : decode cX8_layBest 80 = .ok (.invokevirtual 217, 3) := by decide +kernel
theorem dX8_layBest_83 : decode cX8_layBest 83 = .ok (.pop, 1) := by decide +kernel
theorem dX8_layBest_84 : decode cX8_layBest 84 = .ok (.iinc 6 1, 3) := by decide +kernel
theorem dX8_layBest_87 : decode cX8_layBest 87 = .ok (.goto (-26), 3) := by decide +kernel
theorem dX8_layBest_90 : decode cX8_layBest 90 = .ok (.aload_n 0, 1) := by decide +kernel
theorem dX8_layBest_91 : decode cX8_layBest 91 = .ok (.getfield 47, 3) := by decide +kernel
theorem dX8_layBest_94 : decode cX8_layBest 94 = .ok (.invokestatic 247, 3) := by decide +kernel
theorem dX8_layBest_97 : decode cX8_layBest 97 = .ok (.aload_n 0, 1) := by decide +kernel
theorem dX8_layBest_98 : decode cX8_layBest 98 = .ok (.getfield 44, 3) := by decide +kernel
theorem dX8_layBest_101 : decode cX8_layBest 101 = .ok (.invokestatic 247, 3) := by decide +kernel
theorem dX8_layBest_104 : decode cX8_layBest 104 = .ok (.isub, 1) := by decide +kernel
theorem dX8_layBest_105 : decode cX8_layBest 105 = .ok (.istore 6, 2) := by decide +kernel
theorem dX8_layBest_107 : decode cX8_layBest 107 = .ok (.iload 5, 2) := by decide +kernel
theorem dX8_layBest_109 : decode cX8_layBest 109 = .ok (.ifCond .eq 12, 3) := by decide +kernel
theorem dX8_layBest_112 : decode cX8_layBest 112 = .ok (.iload 6, 2) := by decide +kernel
theorem dX8_layBest_114 : decode cX8_layBest 114 = .ok (.aload_n 0, 1) := by decide +kernel
theorem dX8_layBest_115 : decode cX8_layBest 115 = .ok (.getfield 251, 3) := by decide +kernel
theorem dX8_layBest_118 : decode cX8_layBest 118 = .ok (.if_icmp .ge 38, 3) := by decide +kernel
theorem dX8_layBest_121 : decode cX8_layBest 121 = .ok (.aload_n 0, 1) := by decide +kernel
theorem dX8_layBest_122 : decode cX8_layBest 122 = .ok (.iload 6, 2) := by decide +kernel
theorem dX8_layBest_124 : decode cX8_layBest 124 = .ok (.putfield 251, 3) := by decide +kernel
theorem dX8_layBest_127 : decode cX8_layBest 127 = .ok (.iconst 0, 1) := by decide +kernel
theorem dX8_layBest_128 : decode cX8_layBest 128 = .ok (.istore 7, 2) := by decide +kernel
theorem dX8_layBest_130 : decode cX8_layBest 130 = .ok (.iload 7, 2) := by decide +kernel
theorem dX8_layBest_132 : decode cX8_layBest 132 = .ok (.iload_n 3, 1) := by decide +kernel
theorem dX8_layBest_133 : decode cX8_layBest 133 = .ok (.if_icmp .ge 23, 3) := by decide +kernel
theorem dX8_layBest_136 : decode cX8_layBest 136 = .ok (.aload_n 0, 1) := by decide +kernel
theorem dX8_layBest_137 : decode cX8_layBest 137 = .ok (.getfield 72, 3) := by decide +kernel
theorem dX8_layBest_140 : decode cX8_layBest 140 = .ok (.iload 7, 2) := by decide +kernel
theorem dX8_layBest_142 : decode cX8_layBest 142 = .ok (.aload_n 0, 1) := by decide +kernel
theorem dX8_layBest_143 : decode cX8_layBest 143 = .ok (.getfield 69, 3) := by decide +kernel
theorem dX8_layBest_146 : decode cX8_layBest 146 = .ok (.iload 7, 2) := by decide +kernel
theorem dX8_layBest_148 : decode cX8_layBest 148 = .ok (.iaload, 1) := by decide +kernel
theorem dX8_layBest_149 : decode cX8_layBest 149 = .ok (.iastore, 1) := by decide +kernel
theorem dX8_layBest_150 : decode cX8_layBest 150 = .ok (.iinc 7 1, 3) := by decide +kernel
theorem dX8_layBest_153 : decode cX8_layBest 153 = .ok (.goto (-23), 3) := by decide +kernel
theorem dX8_layBest_156 : decode cX8_layBest 156 = .ok (.iinc 5 1, 3) := by decide +kernel
theorem dX8_layBest_159 : decode cX8_layBest 159 = .ok (.goto (-120), 3) := by decide +kernel
theorem dX8_layBest_162 : decode cX8_layBest 162 = .ok (.return_, 1) := by decide +kernel
theorem dX8_order_0 : decode cX8_order 0 = .ok (.aload_n 0, 1) := by decide +kernel
theorem dX8_order_1 : decode cX8_order 1 = .ok (.iconst 0, 1) := by decide +kernel
theorem dX8_order_2 : decode cX8_order 2 = .ok (.putfield 75, 3) := by decide +kernel
theorem dX8_order_5 : decode cX8_order 5 = .ok (.aload_n 0, 1) := by decide +kernel
theorem dX8_order_6 : decode cX8_order 6 = .ok (.iload_n 1, 1) := by decide +kernel
theorem dX8_order_7 : decode cX8_order 7 = .ok (.invokevirtual 200, 3) := by decide +kernel
theorem dX8_order_10 : decode cX8_order 10 = .ok (.ifCond .eq 5, 3) := by decide +kernel
theorem dX8_order_13 : decode cX8_order 13 = .ok (.iconst (-1), 1) := by decide +kernel
theorem dX8_order_14 : decode cX8_order 14 = .ok (.ireturn, 1) := by decide +kernel
theorem dX8_order_15 : decode cX8_order 15 = .ok (.iload_n 2, 1) := by decide +kernel
theorem dX8_order_16 : decode cX8_order 16 = .ok (.invokestatic 226, 3) := by decide +kernel
theorem dX8_order_19 : decode cX8_order 19 = .ok (.istore 4, 2) := by decide +kernel
theorem dX8_order_21 : decode cX8_order 21 = .ok (.iload 4, 2) := by decide +kernel
theorem dX8_order_23 : decode cX8_order 23 = .ok (.i2l, 1) := by decide +kernel
theorem dX8_order_24 : decode cX8_order 24 = .ok (.lconst 1, 1) := by decide +kernel
theorem dX8_order_25 : decode cX8_order 25 = .ok (.ldc2_w 258, 3) := by decide +kernel
theorem dX8_order_28 : decode cX8_order 28 = .ok (.invokestatic 81, 3) := by decide +kernel
theorem dX8_order_31 : decode cX8_order 31 = .ok (.ifCond .eq 8, 3) := by decide +kernel
theorem dX8_order_34 : decode cX8_order 34 = .ok (.iload_n 3, 1) := by decide +kernel
theorem dX8_order_35 : decode cX8_order 35 = .ok (.iconst (-1), 1) := by decide +kernel
theorem dX8_order_36 : decode cX8_order 36 = .ok (.if_icmp .ge 6, 3) := by decide +kernel
theorem dX8_order_39 : decode cX8_order 39 = .ok (.bipush (-2), 2) := by decide +kernel
theorem dX8_order_41 : decode cX8_order 41 = .ok (.ireturn, 1) := by decide +kernel
theorem dX8_order_42 : decode cX8_order 42 = .ok (.aload_n 0, 1) := by decide +kernel
theorem dX8_order_43 : decode cX8_order 43 = .ok (.iload_n 1, 1) := by decide +kernel
theorem dX8_order_44 : decode cX8_order 44 = .ok (.iload_n 2, 1) := by decide +kernel
theorem dX8_order_45 : decode cX8_order 45 = .ok (.invokevirtual 260, 3) := by decide +kernel
theorem dX8_order_48 : decode cX8_order 48 = .ok (.iload_n 3, 1) := by decide +kernel
theorem dX8_order_49 : decode cX8_order 49 = .ok (.iconst (-1), 1) := by decide +kernel
theorem dX8_order_50 : decode cX8_order 50 = .ok (.if_icmp .ne 10, 3) := by decide +kernel
theorem dX8_order_53 : decode cX8_order 53 = .ok (.aload_n 0, 1) := by decide +kernel
theorem dX8_order_54 : decode cX8_order 54 = .ok (.getfield 251, 3) := by decide +kernel
theorem dX8_order_57 : decode cX8_order 57 = .ok (.goto 20, 3) := by decide +kernel
theorem dX8_order_60 : decode cX8_order 60 = .ok (.iload_n 3, 1) := by decide +kernel
theorem dX8_order_61 : decode cX8_order 61 = .ok (.iload 4, 2) := by decide +kernel
theorem dX8_order_63 : decode cX8_order 63 = .ok (.if_icmp .ge 12, 3) := by decide +kernel
theorem dX8_order_66 : decode cX8_order 66 = .ok (.aload_n 0, 1) := by decide +kernel
theorem dX8_order_67 : decode cX8_order 67 = .ok (.getfield 72, 3) := by decide +kernel
theorem dX8_order_70 : decode cX8_order 70 = .ok (.iload_n 3, 1) := by decide +kernel
theorem dX8_order_71 : decode cX8_order 71 = .ok (.iaload, 1) := by decide +kernel
theorem dX8_order_72 : decode cX8_order 72 = .ok (.goto 5, 3) := by decide +kernel
theorem dX8_order_75 : decode cX8_order 75 = .ok (.bipush (-9), 2) := by decide +kernel
theorem dX8_order_77 : decode cX8_order 77 = .ok (.ireturn, 1) := by decide +kernel
theorem dX8_does_0 : decode cX8_does 0 = .ok (.iload_n 1, 1) := by decide +kernel
theorem dX8_does_1 : decode cX8_does 1 = .ok (.sipush 1000, 3) := by decide +kernel
theorem dX8_does_4 : decode cX8_does 4 = .ok (.idiv, 1) := by decide +kernel
theorem dX8_does_5 : decode cX8_does 5 = .ok (.bipush 10, 2) := by decide +kernel
theorem dX8_does_7 : decode cX8_does 7 = .ok (.irem, 1) := by decide +kernel
theorem dX8_does_8 : decode cX8_does 8 = .ok (.istore_n 2, 1) := by decide +kernel
theorem dX8_does_9 : decode cX8_does 9 = .ok (.iload_n 1, 1) := by decide +kernel
theorem dX8_does_10 : decode cX8_does 10 = .ok (.bipush 10, 2) := by decide +kernel
theorem dX8_does_12 : decode cX8_does 12 = .ok (.idiv, 1) := by decide +kernel
theorem dX8_does_13 : decode cX8_does 13 = .ok (.bipush 100, 2) := by decide +kernel
theorem dX8_does_15 : decode cX8_does 15 = .ok (.irem, 1) := by decide +kernel
theorem dX8_does_16 : decode cX8_does 16 = .ok (.istore_n 3, 1) := by decide +kernel
theorem dX8_does_17 : decode cX8_does 17 = .ok (.iload_n 1, 1) := by decide +kernel
theorem dX8_does_18 : decode cX8_does 18 = .ok (.bipush 10, 2) := by decide +kernel
theorem dX8_does_20 : decode cX8_does 20 = .ok (.irem, 1) := by decide +kernel
theorem dX8_does_21 : decode cX8_does 21 = .ok (.istore 4, 2) := by decide +kernel
theorem dX8_does_23 : decode cX8_does 23 = .ok (.iload_n 2, 1) := by decide +kernel
theorem dX8_does_24 : decode cX8_does 24 = .ok (.aload_n 0, 1) := by decide +kernel
theorem dX8_does_25 : decode cX8_does 25 = .ok (.getfield 78, 3) := by decide +kernel
theorem dX8_does_28 : decode cX8_does 28 = .ok (.if_icmp .ge 7, 3) := by decide +kernel
theorem dX8_does_31 : decode cX8_does 31 = .ok (.iconst 1, 1) := by decide +kernel
theorem dX8_does_32 : decode cX8_does 32 = .ok (.goto 4, 3) := by decide +kernel
theorem dX8_does_35 : decode cX8_does 35 = .ok (.iconst 0, 1) := by decide +kernel
theorem dX8_does_36 : decode cX8_does 36 = .ok (.istore 5, 2) := by decide +kernel
theorem dX8_does_38 : decode cX8_does 38 = .ok (.iload 5, 2) := by decide +kernel
theorem dX8_does_40 : decode cX8_does 40 = .ok (.ifCond .eq 13, 3) := by decide +kernel
theorem dX8_does_43 : decode cX8_does 43 = .ok (.iload_n 3, 1) := by decide +kernel
theorem dX8_does_44 : decode cX8_does 44 = .ok (.bipush 32, 2) := by decide +kernel
theorem dX8_does_46 : decode cX8_does 46 = .ok (.if_icmp .ge 7, 3) := by decide +kernel
theorem dX8_does_49 : decode cX8_does 49 = .ok (.iconst 1, 1) := by decide +kernel
theorem dX8_does_50 : decode cX8_does 50 = .ok (.goto 4, 3) := by decide +kernel
theorem dX8_does_53 : decode cX8_does 53 = .ok (.iconst 0, 1) := by decide +kernel
theorem dX8_does_54 : decode cX8_does 54 = .ok (.istore 6, 2) := by decide +kernel
theorem dX8_does_56 : decode cX8_does 56 = .ok (.iload_n 1, 1) := by decide +kernel
theorem dX8_does_57 : decode cX8_does 57 = .ok (.sipush 10000, 3) := by decide +kernel
theorem dX8_does_60 : decode cX8_does 60 = .ok (.idiv, 1) := by decide +kernel
theorem dX8_does_61 : decode cX8_does 61 = .ok (.tableswitch 284 1 7 #[43, 68, 114, 141, 182, 222, 254], 43) := by decide +kernel
theorem dX8_does_104 : decode cX8_does 104 = .ok (.iload 6, 2) := by decide +kernel
theorem dX8_does_106 : decode cX8_does 106 = .ok (.ifCond .eq 8, 3) := by decide +kernel
theorem dX8_does_109 : decode cX8_does 109 = .ok (.iload 4, 2) := by decide +kernel
theorem dX8_does_111 : decode cX8_does 111 = .ok (.ifCond .eq 5, 3) := by decide +kernel
theorem dX8_does_114 : decode cX8_does 114 = .ok (.iconst 0, 1) := by decide +kernel
theorem dX8_does_115 : decode cX8_does 115 = .ok (.ireturn, 1) := by decide +kernel
theorem dX8_does_116 : decode cX8_does 116 = .ok (.aload_n 0, 1) := by decide +kernel
theorem dX8_does_117 : decode cX8_does 117 = .ok (.aload_n 0, 1) := by decide +kernel
theorem dX8_does_118 : decode cX8_does 118 = .ok (.getfield 47, 3) := by decide +kernel
theorem dX8_does_121 : decode cX8_does 121 = .ok (.iload_n 2, 1) := by decide +kernel
theorem dX8_does_122 : decode cX8_does 122 = .ok (.iload_n 3, 1) := by decide +kernel
theorem dX8_does_123 : decode cX8_does 123 = .ok (.invokevirtual 217, 3) := by decide +kernel
theorem dX8_does_126 : decode cX8_does 126 = .ok (.pop, 1) := by decide +kernel
theorem dX8_does_127 : decode cX8_does 127 = .ok (.iconst 1, 1) := by decide +kernel
theorem dX8_does_128 : decode cX8_does 128 = .ok (.ireturn, 1) := by decide +kernel
theorem dX8_does_129 : decode cX8_does 129 = .ok (.iload 6, 2) := by decide +kernel
theorem dX8_does_131 : decode cX8_does 131 = .ok (.ifCond .eq 22, 3) := by decide +kernel
theorem dX8_does_134 : decode cX8_does 134 = .ok (.iload 4, 2) := by decide +kernel
theorem dX8_does_136 : decode cX8_does 136 = .ok (.ifCond .ne 17, 3) := by decide +kernel
theorem dX8_does_139 : decode cX8_does 139 = .ok (.aload_n 0, 1) := by decide +kernel
theorem dX8_does_140 : decode cX8_does 140 = .ok (.getfield 47, 3) := by decide +kernel
theorem dX8_does_143 : decode cX8_does 143 = .ok (.iload_n 2, 1) := by decide +kernel
theorem dX8_does_144 : decode cX8_does 144 = .ok (.iload_n 3, 1) := by decide +kernel
theorem dX8_does_145 : decode cX8_does 145 = .ok (.invokestatic 115, 3) := by decide +kernel
theorem dX8_does_148 : decode cX8_does 148 = .ok (.bipush (-9), 2) := by decide +kernel
theorem dX8_does_150 : decode cX8_does 150 = .ok (.if_icmp .ne 5, 3) := by decide +kernel
theorem dX8_does_153 : decode cX8_does 153 = .ok (.iconst 0, 1) := by decide +kernel
theorem dX8_does_154 : decode cX8_does 154 = .ok (.ireturn, 1) := by decide +kernel
theorem dX8_does_155 : decode cX8_does 155 = .ok (.aload_n 0, 1) := by decide +kernel
theorem dX8_does_156 : decode cX8_does 156 = .ok (.aload_n 0, 1) := by decide +kernel
theorem dX8_does_157 : decode cX8_does 157 = .ok (.getfield 47, 3) := by decide +kernel
theorem dX8_does_160 : decode cX8_does 160 = .ok (.iload_n 2, 1) := by decide +kernel
theorem dX8_does_161 : decode cX8_does 161 = .ok (.aload_n 0, 1) := by decide +kernel
theorem dX8_does_162 : decode cX8_does 162 = .ok (.getfield 47, 3) := by decide +kernel
theorem dX8_does_165 : decode cX8_does 165 = .ok (.iload_n 2, 1) := by decide +kernel
theorem dX8_does_166 : decode cX8_does 166 = .ok (.iload_n 3, 1) := by decide +kernel
theorem dX8_does_167 : decode cX8_does 167 = .ok (.invokestatic 115, 3) := by decide +kernel
theorem dX8_does_170 : decode cX8_does 170 = .ok (.invokevirtual 220, 3) := by decide +kernel
theorem dX8_does_173 : decode cX8_does 173 = .ok (.iconst 1, 1) := by decide +kernel
theorem dX8_does_174 : decode cX8_does 174 = .ok (.ireturn, 1) := by decide +kernel
theorem dX8_does_175 : decode cX8_does 175 = .ok (.iload 5, 2) := by decide +kernel
theorem dX8_does_177 : decode cX8_does 177 = .ok (.ifCond .eq 12, 3) := by decide +kernel
theorem dX8_does_180 : decode cX8_does 180 = .ok (.iload_n 3, 1) := by decide +kernel
theorem dX8_does_181 : decode cX8_does 181 = .ok (.ifCond .ne 8, 3) := by decide +kernel
theorem dX8_does_184 : decode cX8_does 184 = .ok (.iload 4, 2) := by decide +kernel
theorem dX8_does_186 : decode cX8_does 186 = .ok (.ifCond .eq 5, 3) := by decide +kernel
theorem dX8_does_189 : decode cX8_does 189 = .ok (.iconst 0, 1) := by decide +kernel
theorem dX8_does_190 : decode cX8_does 190 = .ok (.ireturn, 1) := by decide +kernel
theorem dX8_does_191 : decode cX8_does 191 = .ok (.aload_n 0, 1) := by decide +kernel
theorem dX8_does_192 : decode cX8_does 192 = .ok (.aload_n 0, 1) := by decide +kernel
theorem dX8_does_193 : decode cX8_does 193 = .ok (.getfield 47, 3) := by decide +kernel
theorem dX8_does_196 : decode cX8_does 196 = .ok (.iload_n 2, 1) := by decide +kernel
theorem dX8_does_197 : decode cX8_does 197 = .ok (.invokevirtual 183, 3) := by decide +kernel
theorem dX8_does_200 : decode cX8_does 200 = .ok (.iconst 1, 1) := by decide +kernel
theorem dX8_does_201 : decode cX8_does 201 = .ok (.ireturn, 1) := by decide +kernel
theorem dX8_does_202 : decode cX8_does 202 = .ok (.iload 6, 2) := by decide +kernel
theorem dX8_does_204 : decode cX8_does 204 = .ok (.ifCond .eq 37, 3) := by decide +kernel
theorem dX8_does_207 : decode cX8_does 207 = .ok (.iload 4, 2) := by decide +kernel
theorem dX8_does_209 : decode cX8_does 209 = .ok (.iconst 2, 1) := by decide +kernel
theorem dX8_does_210 : decode cX8_does 210 = .ok (.if_icmp .ge 31, 3) := by decide +kernel
theorem dX8_does_213 : decode cX8_does 213 = .ok (.aload_n 0, 1) := by decide +kernel
theorem dX8_does_214 : decode cX8_does 214 = .ok (.getfield 47, 3) := by decide +kernel
theorem dX8_does_217 : decode cX8_does 217 = .ok (.iload_n 2, 1) := by decide +kernel
theorem dX8_does_218 : decode cX8_does 218 = .ok (.iload_n 3, 1) := by decide +kernel
theorem dX8_does_219 : decode cX8_does 219 = .ok (.invokestatic 115, 3) := by decide +kernel
theorem dX8_does_222 : decode cX8_does 222 = .ok (.bipush (-9), 2) := by decide +kernel
theorem dX8_does_224 : decode cX8_does 224 = .ok (.if_icmp .ne 7, 3) := by decide +kernel
theorem dX8_does_227 : decode cX8_does 227 = .ok (.iconst 0, 1) := by decide +kernel
theorem dX8_does_228 : decode cX8_does 228 = .ok (.goto 4, 3) := by decide +kernel
theorem dX8_does_231 : decode cX8_does 231 = .ok (.iconst 1, 1) := by decide +kernel
theorem dX8_does_232 : decode cX8_does 232 = .ok (.iload 4, 2) := by decide +kernel
theorem dX8_does_234 : decode cX8_does 234 = .ok (.if_icmp .ne 7, 3) := by decide +kernel
theorem dX8_does_237 : decode cX8_does 237 = .ok (.iconst 1, 1) := by decide +kernel
theorem dX8_does_238 : decode cX8_does 238 = .ok (.goto 4, 3) := by decide +kernel
theorem dX8_does_241 : decode cX8_does 241 = .ok (.iconst 0, 1) := by decide +kernel
theorem dX8_does_242 : decode cX8_does 242 = .ok (.ireturn, 1) := by decide +kernel
theorem dX8_does_243 : decode cX8_does 243 = .ok (.iload 6, 2) := by decide +kernel
theorem dX8_does_245 : decode cX8_does 245 = .ok (.ifCond .eq 36, 3) := by decide +kernel
theorem dX8_does_248 : decode cX8_does 248 = .ok (.iload 4, 2) := by decide +kernel
theorem dX8_does_250 : decode cX8_does 250 = .ok (.iconst 2, 1) := by decide +kernel
theorem dX8_does_251 : decode cX8_does 251 = .ok (.if_icmp .ge 30, 3) := by decide +kernel
theorem dX8_does_254 : decode cX8_does 254 = .ok (.aload_n 0, 1) := by decide +kernel
theorem dX8_does_255 : decode cX8_does 255 = .ok (.aload_n 0, 1) := by decide +kernel
theorem dX8_does_256 : decode cX8_does 256 = .ok (.getfield 47, 3) := by decide +kernel
theorem dX8_does_259 : decode cX8_does 259 = .ok (.iload_n 2, 1) := by decide +kernel
theorem dX8_does_260 : decode cX8_does 260 = .ok (.iload_n 3, 1) := by decide +kernel
theorem dX8_does_261 : decode cX8_does 261 = .ok (.invokevirtual 190, 3) := by decide +kernel
theorem dX8_does_264 : decode cX8_does 264 = .ok (.ifCond .eq 7, 3) := by decide +kernel
theorem dX8_does_267 : decode cX8_does 267 = .ok (.iconst 1, 1) := by decide +kernel
theorem dX8_does_268 : decode cX8_does 268 = .ok (.goto 4, 3) := by decide +kernel
theorem dX8_does_271 : decode cX8_does 271 = .ok (.iconst 0, 1) := by decide +kernel
theorem dX8_does_272 : decode cX8_does 272 = .ok (.iload 4, 2) := by decide +kernel
theorem dX8_does_274 : decode cX8_does 274 = .ok (.if_icmp .ne 7, 3) := by decide +kernel
theorem dX8_does_277 : decode cX8_does 277 = .ok (.iconst 1, 1) := by decide +kernel
theorem dX8_does_278 : decode cX8_does 278 = .ok (.goto 4, 3) := by decide +kernel
theorem dX8_does_281 : decode cX8_does 281 = .ok (.iconst 0, 1) := by decide +kernel
theorem dX8_does_282 : decode cX8_does 282 = .ok (.ireturn, 1) := by decide +kernel
theorem dX8_does_283 : decode cX8_does 283 = .ok (.iload 5, 2) := by decide +kernel
theorem dX8_does_285 : decode cX8_does 285 = .ok (.ifCond .eq 28, 3) := by decide +kernel
theorem dX8_does_288 : decode cX8_does 288 = .ok (.iload_n 3, 1) := by decide +kernel
theorem dX8_does_289 : decode cX8_does 289 = .ok (.ifCond .ne 24, 3) := by decide +kernel
theorem dX8_does_292 : decode cX8_does 292 = .ok (.aload_n 0, 1) := by decide +kernel
theorem dX8_does_293 : decode cX8_does 293 = .ok (.getfield 47, 3) := by decide +kernel
theorem dX8_does_296 : decode cX8_does 296 = .ok (.bipush 29, 2) := by decide +kernel
theorem dX8_does_298 : decode cX8_does 298 = .ok (.iload_n 2, 1) := by decide +kernel
theorem dX8_does_299 : decode cX8_does 299 = .ok (.imul, 1) := by decide +kernel
theorem dX8_does_300 : decode cX8_does 300 = .ok (.bipush 27, 2) := by decide +kernel
theorem dX8_does_302 : decode cX8_does 302 = .ok (.iadd, 1) := by decide +kernel
theorem dX8_does_303 : decode cX8_does 303 = .ok (.iaload, 1) := by decide +kernel
theorem dX8_does_304 : decode cX8_does 304 = .ok (.iload 4, 2) := by decide +kernel
theorem dX8_does_306 : decode cX8_does 306 = .ok (.if_icmp .ne 7, 3) := by decide +kernel
theorem dX8_does_309 : decode cX8_does 309 = .ok (.iconst 1, 1) := by decide +kernel
theorem dX8_does_310 : decode cX8_does 310 = .ok (.goto 4, 3) := by decide +kernel
theorem dX8_does_313 : decode cX8_does 313 = .ok (.iconst 0, 1) := by decide +kernel
theorem dX8_does_314 : decode cX8_does 314 = .ok (.ireturn, 1) := by decide +kernel
theorem dX8_does_315 : decode cX8_does 315 = .ok (.iload_n 2, 1) := by decide +kernel
theorem dX8_does_316 : decode cX8_does 316 = .ok (.aload_n 0, 1) := by decide +kernel
theorem dX8_does_317 : decode cX8_does 317 = .ok (.getfield 20, 3) := by decide +kernel
theorem dX8_does_320 : decode cX8_does 320 = .ok (.if_icmp .ge 12, 3) := by decide +kernel
theorem dX8_does_323 : decode cX8_does 323 = .ok (.iload_n 3, 1) := by decide +kernel
theorem dX8_does_324 : decode cX8_does 324 = .ok (.ifCond .ne 8, 3) := by decide +kernel
theorem dX8_does_327 : decode cX8_does 327 = .ok (.iload 4, 2) := by decide +kernel
theorem dX8_does_329 : decode cX8_does 329 = .ok (.ifCond .eq 5, 3) := by decide +kernel
theorem dX8_does_332 : decode cX8_does 332 = .ok (.iconst 0, 1) := by decide +kernel
theorem dX8_does_333 : decode cX8_does 333 = .ok (.ireturn, 1) := by decide +kernel
theorem dX8_does_334 : decode cX8_does 334 = .ok (.aload_n 0, 1) := by decide +kernel
theorem dX8_does_335 : decode cX8_does 335 = .ok (.aload_n 0, 1) := by decide +kernel
theorem dX8_does_336 : decode cX8_does 336 = .ok (.getfield 47, 3) := by decide +kernel
theorem dX8_does_339 : decode cX8_does 339 = .ok (.iload_n 2, 1) := by decide +kernel
theorem dX8_does_340 : decode cX8_does 340 = .ok (.invokevirtual 223, 3) := by decide +kernel
theorem dX8_does_343 : decode cX8_does 343 = .ok (.iconst 1, 1) := by decide +kernel
theorem dX8_does_344 : decode cX8_does 344 = .ok (.ireturn, 1) := by decide +kernel
theorem dX8_does_345 : decode cX8_does 345 = .ok (.iconst 0, 1) := by decide +kernel
theorem dX8_does_346 : decode cX8_does 346 = .ok (.ireturn, 1) := by decide +kernel
theorem dX8_longPower_0 : decode cX8_longPower 0 = .ok (.lconst 1, 1) := by decide +kernel
theorem dX8_longPower_1 : decode cX8_longPower 1 = .ok (.lstore_n 3, 1) := by decide +kernel
theorem dX8_longPower_2 : decode cX8_longPower 2 = .ok (.iconst 0, 1) := by decide +kernel
theorem dX8_longPower_3 : decode cX8_longPower 3 = .ok (.istore 5, 2) := by decide +kernel
theorem dX8_longPower_5 : decode cX8_longPower 5 = .ok (.iload 5, 2) := by decide +kernel
theorem dX8_longPower_7 : decode cX8_longPower 7 = .ok (.iload_n 2, 1) := by decide +kernel
theorem dX8_longPower_8 : decode cX8_longPower 8 = .ok (.if_icmp .ge 13, 3) := by decide +kernel
theorem dX8_longPower_11 : decode cX8_longPower 11 = .ok (.lload_n 3, 1) := by decide +kernel
theorem dX8_longPower_12 : decode cX8_longPower 12 = .ok (.lload_n 0, 1) := by decide +kernel
theorem dX8_longPower_13 : decode cX8_longPower 13 = .ok (.lmul, 1) := by decide +kernel
theorem dX8_longPower_14 : decode cX8_longPower 14 = .ok (.lstore_n 3, 1) := by decide +kernel
theorem dX8_longPower_15 : decode cX8_longPower 15 = .ok (.iinc 5 1, 3) := by decide +kernel
theorem dX8_longPower_18 : decode cX8_longPower 18 = .ok (.goto (-13), 3) := by decide +kernel
theorem dX8_longPower_21 : decode cX8_longPower 21 = .ok (.lload_n 3, 1) := by decide +kernel
theorem dX8_longPower_22 : decode cX8_longPower 22 = .ok (.lreturn, 1) := by decide +kernel
theorem dX8_judge_0 : decode cX8_judge 0 = .ok (.aload_n 0, 1) := by decide +kernel
theorem dX8_judge_1 : decode cX8_judge 1 = .ok (.iconst 0, 1) := by decide +kernel
theorem dX8_judge_2 : decode cX8_judge 2 = .ok (.putfield 75, 3) := by decide +kernel
theorem dX8_judge_5 : decode cX8_judge 5 = .ok (.iload_n 1, 1) := by decide +kernel
theorem dX8_judge_6 : decode cX8_judge 6 = .ok (.i2l, 1) := by decide +kernel
theorem dX8_judge_7 : decode cX8_judge 7 = .ok (.lconst 1, 1) := by decide +kernel
theorem dX8_judge_8 : decode cX8_judge 8 = .ok (.ldc2_w 123, 3) := by decide +kernel
theorem dX8_judge_11 : decode cX8_judge 11 = .ok (.invokestatic 81, 3) := by decide +kernel
theorem dX8_judge_14 : decode cX8_judge 14 = .ok (.ifCond .eq 20, 3) := by decide +kernel
theorem dX8_judge_17 : decode cX8_judge 17 = .ok (.lload_n 2, 1) := by decide +kernel
theorem dX8_judge_18 : decode cX8_judge 18 = .ok (.lconst 0, 1) := by decide +kernel
theorem dX8_judge_19 : decode cX8_judge 19 = .ok (.ldc2_w 264, 3) := by decide +kernel
theorem dX8_judge_22 : decode cX8_judge 22 = .ok (.iload_n 1, 1) := by decide +kernel
theorem dX8_judge_23 : decode cX8_judge 23 = .ok (.invokestatic 266, 3) := by decide +kernel
theorem dX8_judge_26 : decode cX8_judge 26 = .ok (.lconst 1, 1) := by decide +kernel
theorem dX8_judge_27 : decode cX8_judge 27 = .ok (.lsub, 1) := by decide +kernel
theorem dX8_judge_28 : decode cX8_judge 28 = .ok (.invokestatic 81, 3) := by decide +kernel
theorem dX8_judge_31 : decode cX8_judge 31 = .ok (.ifCond .ne 6, 3) := by decide +kernel
theorem dX8_judge_34 : decode cX8_judge 34 = .ok (.bipush (-2), 2) := by decide +kernel
theorem dX8_judge_36 : decode cX8_judge 36 = .ok (.ireturn, 1) := by decide +kernel
theorem dX8_judge_37 : decode cX8_judge 37 = .ok (.aload_n 0, 1) := by decide +kernel
theorem dX8_judge_38 : decode cX8_judge 38 = .ok (.invokevirtual 244, 3) := by decide +kernel
theorem dX8_judge_41 : decode cX8_judge 41 = .ok (.iconst 0, 1) := by decide +kernel
theorem dX8_judge_42 : decode cX8_judge 42 = .ok (.istore 4, 2) := by decide +kernel
theorem dX8_judge_44 : decode cX8_judge 44 = .ok (.iload 4, 2) := by decide +kernel
theorem dX8_judge_46 : decode cX8_judge 46 = .ok (.iload_n 1, 1) := by decide +kernel
theorem dX8_judge_47 : decode cX8_judge 47 = .ok (.if_icmp .ge 38, 3) := by decide +kernel
theorem dX8_judge_50 : decode cX8_judge 50 = .ok (.aload_n 0, 1) := by decide +kernel
theorem dX8_judge_51 : decode cX8_judge 51 = .ok (.lload_n 2, 1) := by decide +kernel
theorem dX8_judge_52 : decode cX8_judge 52 = .ok (.ldc2_w 264, 3) := by decide +kernel
theorem dX8_judge_55 : decode cX8_judge 55 = .ok (.iload_n 1, 1) := by decide +kernel
theorem dX8_judge_56 : decode cX8_judge 56 = .ok (.iconst 1, 1) := by decide +kernel
theorem dX8_judge_57 : decode cX8_judge 57 = .ok (.isub, 1) := by decide +kernel
theorem dX8_judge_58 : decode cX8_judge 58 = .ok (.iload 4, 2) := by decide +kernel
theorem dX8_judge_60 : decode cX8_judge 60 = .ok (.isub, 1) := by decide +kernel
theorem dX8_judge_61 : decode cX8_judge 61 = .ok (.invokestatic 266, 3) := by decide +kernel
theorem dX8_judge_64 : decode cX8_judge 64 = .ok (.ldiv, 1) := by decide +kernel
theorem dX8_judge_65 : decode cX8_judge 65 = .ok (.ldc2_w 264, 3) := by decide +kernel
theorem dX8_judge_68 : decode cX8_judge 68 = .ok (.lrem, 1) := by decide +kernel
theorem dX8_judge_69 : decode cX8_judge 69 = .ok (.l2i, 1) := by decide +kernel
theorem dX8_judge_70 : decode cX8_judge 70 = .ok (.invokevirtual 270, 3) := by decide +kernel
theorem dX8_judge_73 : decode cX8_judge 73 = .ok (.ifCond .ne 6, 3) := by decide +kernel
theorem dX8_judge_76 : decode cX8_judge 76 = .ok (.iload 4, 2) := by decide +kernel
theorem dX8_judge_78 : decode cX8_judge 78 = .ok (.ireturn, 1) := by decide +kernel
theorem dX8_judge_79 : decode cX8_judge 79 = .ok (.iinc 4 1, 3) := by decide +kernel
theorem dX8_judge_82 : decode cX8_judge 82 = .ok (.goto (-38), 3) := by decide +kernel
theorem dX8_judge_85 : decode cX8_judge 85 = .ok (.bipush (-9), 2) := by decide +kernel
theorem dX8_judge_87 : decode cX8_judge 87 = .ok (.ireturn, 1) := by decide +kernel
theorem dX8_see_0 : decode cX8_see 0 = .ok (.aload_n 0, 1) := by decide +kernel
theorem dX8_see_1 : decode cX8_see 1 = .ok (.iconst 0, 1) := by decide +kernel
theorem dX8_see_2 : decode cX8_see 2 = .ok (.putfield 75, 3) := by decide +kernel
theorem dX8_see_5 : decode cX8_see 5 = .ok (.aload_n 0, 1) := by decide +kernel
theorem dX8_see_6 : decode cX8_see 6 = .ok (.iload_n 1, 1) := by decide +kernel
theorem dX8_see_7 : decode cX8_see 7 = .ok (.invokevirtual 200, 3) := by decide +kernel
theorem dX8_see_10 : decode cX8_see 10 = .ok (.ifCond .eq 5, 3) := by decide +kernel
theorem dX8_see_13 : decode cX8_see 13 = .ok (.iconst (-1), 1) := by decide +kernel
theorem dX8_see_14 : decode cX8_see 14 = .ok (.ireturn, 1) := by decide +kernel
theorem dX8_see_15 : decode cX8_see 15 = .ok (.iload_n 2, 1) := by decide +kernel
theorem dX8_see_16 : decode cX8_see 16 = .ok (.i2l, 1) := by decide +kernel
theorem dX8_see_17 : decode cX8_see 17 = .ok (.lconst 0, 1) := by decide +kernel
theorem dX8_see_18 : decode cX8_see 18 = .ok (.ldc2_w 273, 3) := by decide +kernel
theorem dX8_see_21 : decode cX8_see 21 = .ok (.invokestatic 81, 3) := by decide +kernel
theorem dX8_see_24 : decode cX8_see 24 = .ok (.ifCond .eq 13, 3) := by decide +kernel
theorem dX8_see_27 : decode cX8_see 27 = .ok (.iload_n 3, 1) := by decide +kernel
theorem dX8_see_28 : decode cX8_see 28 = .ok (.i2l, 1) := by decide +kernel
theorem dX8_see_29 : decode cX8_see 29 = .ok (.lconst 0, 1) := by decide +kernel
theorem dX8_see_30 : decode cX8_see 30 = .ok (.lconst 1, 1) := by decide +kernel
theorem dX8_see_31 : decode cX8_see 31 = .ok (.invokestatic 81, 3) := by decide +kernel
theorem dX8_see_34 : decode cX8_see 34 = .ok (.ifCond .ne 6, 3) := by decide +kernel
theorem dX8_see_37 : decode cX8_see 37 = .ok (.bipush (-2), 2) := by decide +kernel
theorem dX8_see_39 : decode cX8_see 39 = .ok (.ireturn, 1) := by decide +kernel
theorem dX8_see_40 : decode cX8_see 40 = .ok (.aload_n 0, 1) := by decide +kernel
theorem dX8_see_41 : decode cX8_see 41 = .ok (.getfield 275, 3) := by decide +kernel
theorem dX8_see_44 : decode cX8_see 44 = .ok (.bipush 6, 2) := by decide +kernel
theorem dX8_see_46 : decode cX8_see 46 = .ok (.if_icmp .ne 6, 3) := by decide +kernel
theorem dX8_see_49 : decode cX8_see 49 = .ok (.bipush (-4), 2) := by decide +kernel
theorem dX8_see_51 : decode cX8_see 51 = .ok (.ireturn, 1) := by decide +kernel
theorem dX8_see_52 : decode cX8_see 52 = .ok (.aload_n 0, 1) := by decide +kernel
theorem dX8_see_53 : decode cX8_see 53 = .ok (.getfield 60, 3) := by decide +kernel
theorem dX8_see_56 : decode cX8_see 56 = .ok (.aload_n 0, 1) := by decide +kernel
theorem dX8_see_57 : decode cX8_see 57 = .ok (.getfield 275, 3) := by decide +kernel
theorem dX8_see_60 : decode cX8_see 60 = .ok (.iload_n 1, 1) := by decide +kernel
theorem dX8_see_61 : decode cX8_see 61 = .ok (.iastore, 1) := by decide +kernel
theorem dX8_see_62 : decode cX8_see 62 = .ok (.aload_n 0, 1) := by decide +kernel
theorem dX8_see_63 : decode cX8_see 63 = .ok (.getfield 63, 3) := by decide +kernel
theorem dX8_see_66 : decode cX8_see 66 = .ok (.aload_n 0, 1) := by decide +kernel
theorem dX8_see_67 : decode cX8_see 67 = .ok (.getfield 275, 3) := by decide +kernel
theorem dX8_see_70 : decode cX8_see 70 = .ok (.iload_n 2, 1) := by decide +kernel
theorem dX8_see_71 : decode cX8_see 71 = .ok (.iastore, 1) := by decide +kernel
theorem dX8_see_72 : decode cX8_see 72 = .ok (.aload_n 0, 1) := by decide +kernel
theorem dX8_see_73 : decode cX8_see 73 = .ok (.getfield 66, 3) := by decide +kernel
theorem dX8_see_76 : decode cX8_see 76 = .ok (.aload_n 0, 1) := by decide +kernel
theorem dX8_see_77 : decode cX8_see 77 = .ok (.getfield 275, 3) := by decide +kernel
theorem dX8_see_80 : decode cX8_see 80 = .ok (.iload_n 3, 1) := by decide +kernel
theorem dX8_see_81 : decode cX8_see 81 = .ok (.iastore, 1) := by decide +kernel
theorem dX8_see_82 : decode cX8_see 82 = .ok (.aload_n 0, 1) := by decide +kernel
theorem dX8_see_83 : decode cX8_see 83 = .ok (.dup, 1) := by decide +kernel
theorem dX8_see_84 : decode cX8_see 84 = .ok (.getfield 275, 3) := by decide +kernel
theorem dX8_see_87 : decode cX8_see 87 = .ok (.iconst 1, 1) := by decide +kernel
theorem dX8_see_88 : decode cX8_see 88 = .ok (.iadd, 1) := by decide +kernel
theorem dX8_see_89 : decode cX8_see 89 = .ok (.putfield 275, 3) := by decide +kernel
theorem dX8_see_92 : decode cX8_see 92 = .ok (.aload_n 0, 1) := by decide +kernel
theorem dX8_see_93 : decode cX8_see 93 = .ok (.getfield 275, 3) := by decide +kernel
theorem dX8_see_96 : decode cX8_see 96 = .ok (.ireturn, 1) := by decide +kernel
theorem dX8_unsee_0 : decode cX8_unsee 0 = .ok (.aload_n 0, 1) := by decide +kernel
theorem dX8_unsee_1 : decode cX8_unsee 1 = .ok (.iconst 0, 1) := by decide +kernel
theorem dX8_unsee_2 : decode cX8_unsee 2 = .ok (.putfield 75, 3) := by decide +kernel
theorem dX8_unsee_5 : decode cX8_unsee 5 = .ok (.aload_n 0, 1) := by decide +kernel
theorem dX8_unsee_6 : decode cX8_unsee 6 = .ok (.getfield 275, 3) := by decide +kernel
theorem dX8_unsee_9 : decode cX8_unsee 9 = .ok (.istore_n 1, 1) := by decide +kernel
theorem dX8_unsee_10 : decode cX8_unsee 10 = .ok (.aload_n 0, 1) := by decide +kernel
theorem dX8_unsee_11 : decode cX8_unsee 11 = .ok (.iconst 0, 1) := by decide +kernel
theorem dX8_unsee_12 : decode cX8_unsee 12 = .ok (.putfield 275, 3) := by decide +kernel
theorem dX8_unsee_15 : decode cX8_unsee 15 = .ok (.iload_n 1, 1) := by decide +kernel
theorem dX8_unsee_16 : decode cX8_unsee 16 = .ok (.ireturn, 1) := by decide +kernel
theorem dX8_isSo_0 : decode cX8_isSo 0 = .ok (.aload_n 0, 1) := by decide +kernel
theorem dX8_isSo_1 : decode cX8_isSo 1 = .ok (.getfield 60, 3) := by decide +kernel
theorem dX8_isSo_4 : decode cX8_isSo 4 = .ok (.iload_n 2, 1) := by decide +kernel
theorem dX8_isSo_5 : decode cX8_isSo 5 = .ok (.iaload, 1) := by decide +kernel
theorem dX8_isSo_6 : decode cX8_isSo 6 = .ok (.istore_n 3, 1) := by decide +kernel
theorem dX8_isSo_7 : decode cX8_isSo 7 = .ok (.aload_n 0, 1) := by decide +kernel
theorem dX8_isSo_8 : decode cX8_isSo 8 = .ok (.iload_n 3, 1) := by decide +kernel
theorem dX8_isSo_9 : decode cX8_isSo 9 = .ok (.invokevirtual 200, 3) := by decide +kernel
theorem dX8_isSo_12 : decode cX8_isSo 12 = .ok (.ifCond .eq 5, 3) := by decide +kernel
theorem dX8_isSo_15 : decode cX8_isSo 15 = .ok (.iconst 1, 1) := by decide +kernel
theorem dX8_isSo_16 : decode cX8_isSo 16 = .ok (.ireturn, 1) := by decide +kernel
theorem dX8_isSo_17 : decode cX8_isSo 17 = .ok (.aload_n 0, 1) := by decide +kernel
theorem dX8_isSo_18 : decode cX8_isSo 18 = .ok (.getfield 63, 3) := by decide +kernel
theorem dX8_isSo_21 : decode cX8_isSo 21 = .ok (.iload_n 2, 1) := by decide +kernel
theorem dX8_isSo_22 : decode cX8_isSo 22 = .ok (.iaload, 1) := by decide +kernel
theorem dX8_isSo_23 : decode cX8_isSo 23 = .ok (.ifCond .ne 25, 3) := by decide +kernel
theorem dX8_isSo_26 : decode cX8_isSo 26 = .ok (.aload_n 0, 1) := by decide +kernel
theorem dX8_isSo_27 : decode cX8_isSo 27 = .ok (.getfield 44, 3) := by decide +kernel
theorem dX8_isSo_30 : decode cX8_isSo 30 = .ok (.iload_n 3, 1) := by decide +kernel
theorem dX8_isSo_31 : decode cX8_isSo 31 = .ok (.iload_n 1, 1) := by decide +kernel
theorem dX8_isSo_32 : decode cX8_isSo 32 = .ok (.invokestatic 115, 3) := by decide +kernel
theorem dX8_isSo_35 : decode cX8_isSo 35 = .ok (.bipush (-9), 2) := by decide +kernel
theorem dX8_isSo_37 : decode cX8_isSo 37 = .ok (.if_icmp .eq 7, 3) := by decide +kernel
theorem dX8_isSo_40 : decode cX8_isSo 40 = .ok (.iconst 1, 1) := by decide +kernel
theorem dX8_isSo_41 : decode cX8_isSo 41 = .ok (.goto 51, 3) := by decide +kernel
theorem dX8_isSo_44 : decode cX8_isSo 44 = .ok (.iconst 0, 1) := by decide +kernel
theorem dX8_isSo_45 : decode cX8_isSo 45 = .ok (.goto 47, 3) := by decide +kernel
theorem dX8_isSo_48 : decode cX8_isSo 48 = .ok (.aload_n 0, 1) := by decide +kernel
theorem dX8_isSo_49 : decode cX8_isSo 49 = .ok (.getfield 63, 3) := by decide +kernel
theorem dX8_isSo_52 : decode cX8_isSo 52 = .ok (.iload_n 2, 1) := by decide +kernel
theorem dX8_isSo_53 : decode cX8_isSo 53 = .ok (.iaload, 1) := by decide +kernel
theorem dX8_isSo_54 : decode cX8_isSo 54 = .ok (.iconst 1, 1) := by decide +kernel
theorem dX8_isSo_55 : decode cX8_isSo 55 = .ok (.if_icmp .ne 16, 3) := by decide +kernel
theorem dX8_isSo_58 : decode cX8_isSo 58 = .ok (.aload_n 0, 1) := by decide +kernel
theorem dX8_isSo_59 : decode cX8_isSo 59 = .ok (.aload_n 0, 1) := by decide +kernel
theorem dX8_isSo_60 : decode cX8_isSo 60 = .ok (.getfield 44, 3) := by decide +kernel
theorem dX8_isSo_63 : decode cX8_isSo 63 = .ok (.iload_n 3, 1) := by decide +kernel
theorem dX8_isSo_64 : decode cX8_isSo 64 = .ok (.iload_n 1, 1) := by decide +kernel
theorem dX8_isSo_65 : decode cX8_isSo 65 = .ok (.invokevirtual 190, 3) := by decide +kernel
theorem dX8_isSo_68 : decode cX8_isSo 68 = .ok (.goto 24, 3) := by decide +kernel
theorem dX8_isSo_71 : decode cX8_isSo 71 = .ok (.aload_n 0, 1) := by decide +kernel
theorem dX8_isSo_72 : decode cX8_isSo 72 = .ok (.aload_n 0, 1) := by decide +kernel
theorem dX8_isSo_73 : decode cX8_isSo 73 = .ok (.aload_n 0, 1) := by decide +kernel
theorem dX8_isSo_74 : decode cX8_isSo 74 = .ok (.getfield 44, 3) := by decide +kernel
theorem dX8_isSo_77 : decode cX8_isSo 77 = .ok (.iload_n 3, 1) := by decide +kernel
theorem dX8_isSo_78 : decode cX8_isSo 78 = .ok (.invokevirtual 155, 3) := by decide +kernel
theorem dX8_isSo_81 : decode cX8_isSo 81 = .ok (.aload_n 0, 1) := by decide +kernel
theorem dX8_isSo_82 : decode cX8_isSo 82 = .ok (.getfield 44, 3) := by decide +kernel
theorem dX8_isSo_85 : decode cX8_isSo 85 = .ok (.bipush 116, 2) := by decide +kernel
theorem dX8_isSo_87 : decode cX8_isSo 87 = .ok (.iaload, 1) := by decide +kernel
theorem dX8_isSo_88 : decode cX8_isSo 88 = .ok (.iload_n 1, 1) := by decide +kernel
theorem dX8_isSo_89 : decode cX8_isSo 89 = .ok (.invokevirtual 169, 3) := by decide +kernel
theorem dX8_isSo_92 : decode cX8_isSo 92 = .ok (.istore 4, 2) := by decide +kernel
theorem dX8_isSo_94 : decode cX8_isSo 94 = .ok (.iload 4, 2) := by decide +kernel
theorem dX8_isSo_96 : decode cX8_isSo 96 = .ok (.aload_n 0, 1) := by decide +kernel
theorem dX8_isSo_97 : decode cX8_isSo 97 = .ok (.getfield 66, 3) := by decide +kernel
theorem dX8_isSo_100 : decode cX8_isSo 100 = .ok (.iload_n 2, 1) := by decide +kernel
theorem dX8_isSo_101 : decode cX8_isSo 101 = .ok (.iaload, 1) := by decide +kernel
theorem dX8_isSo_102 : decode cX8_isSo 102 = .ok (.iconst 1, 1) := by decide +kernel
theorem dX8_isSo_103 : decode cX8_isSo 103 = .ok (.if_icmp .ne 7, 3) := by decide +kernel
theorem dX8_isSo_106 : decode cX8_isSo 106 = .ok (.iconst 1, 1) := by decide +kernel
theorem dX8_isSo_107 : decode cX8_isSo 107 = .ok (.goto 4, 3) := by decide +kernel
theorem dX8_isSo_110 : decode cX8_isSo 110 = .ok (.iconst 0, 1) := by decide +kernel
theorem dX8_isSo_111 : decode cX8_isSo 111 = .ok (.if_icmp .ne 7, 3) := by decide +kernel
theorem dX8_isSo_114 : decode cX8_isSo 114 = .ok (.iconst 1, 1) := by decide +kernel
theorem dX8_isSo_115 : decode cX8_isSo 115 = .ok (.goto 4, 3) := by decide +kernel
theorem dX8_isSo_118 : decode cX8_isSo 118 = .ok (.iconst 0, 1) := by decide +kernel
theorem dX8_isSo_119 : decode cX8_isSo 119 = .ok (.ireturn, 1) := by decide +kernel
theorem dX8_which_0 : decode cX8_which 0 = .ok (.aload_n 0, 1) := by decide +kernel
theorem dX8_which_1 : decode cX8_which 1 = .ok (.iconst 0, 1) := by decide +kernel
theorem dX8_which_2 : decode cX8_which 2 = .ok (.putfield 75, 3) := by decide +kernel
theorem dX8_which_5 : decode cX8_which 5 = .ok (.iconst 0, 1) := by decide +kernel
theorem dX8_which_6 : decode cX8_which 6 = .ok (.istore_n 1, 1) := by decide +kernel
theorem dX8_which_7 : decode cX8_which 7 = .ok (.iconst 0, 1) := by decide +kernel
theorem dX8_which_8 : decode cX8_which 8 = .ok (.istore_n 2, 1) := by decide +kernel
theorem dX8_which_9 : decode cX8_which 9 = .ok (.iload_n 2, 1) := by decide +kernel
theorem dX8_which_10 : decode cX8_which 10 = .ok (.bipush 32, 2) := by decide +kernel
theorem dX8_which_12 : decode cX8_which 12 = .ok (.if_icmp .ge 63, 3) := by decide +kernel
theorem dX8_which_15 : decode cX8_which 15 = .ok (.iconst 1, 1) := by decide +kernel
theorem dX8_which_16 : decode cX8_which 16 = .ok (.istore_n 3, 1) := by decide +kernel
theorem dX8_which_17 : decode cX8_which 17 = .ok (.iconst 0, 1) := by decide +kernel
theorem dX8_which_18 : decode cX8_which 18 = .ok (.istore 4, 2) := by decide +kernel
theorem dX8_which_20 : decode cX8_which 20 = .ok (.iload 4, 2) := by decide +kernel
theorem dX8_which_22 : decode cX8_which 22 = .ok (.aload_n 0, 1) := by decide +kernel
theorem dX8_which_23 : decode cX8_which 23 = .ok (.getfield 275, 3) := by decide +kernel
theorem dX8_which_26 : decode cX8_which 26 = .ok (.if_icmp .ge 29, 3) := by decide +kernel
theorem dX8_which_29 : decode cX8_which 29 = .ok (.iload_n 3, 1) := by decide +kernel
theorem dX8_which_30 : decode cX8_which 30 = .ok (.ifCond .eq 17, 3) := by decide +kernel
theorem dX8_which_33 : decode cX8_which 33 = .ok (.aload_n 0, 1) := by decide +kernel
theorem dX8_which_34 : decode cX8_which 34 = .ok (.iload_n 2, 1) := by decide +kernel
theorem dX8_which_35 : decode cX8_which 35 = .ok (.iload 4, 2) := by decide +kernel
theorem dX8_which_37 : decode cX8_which 37 = .ok (.invokevirtual 278, 3) := by decide +kernel
theorem dX8_which_40 : decode cX8_which 40 = .ok (.ifCond .eq 7, 3) := by decide +kernel
theorem dX8_which_43 : decode cX8_which 43 = .ok (.iconst 1, 1) := by decide +kernel
theorem dX8_which_44 : decode cX8_which 44 = .ok (.goto 4, 3) := by decide +kernel
theorem dX8_which_47 : decode cX8_which 47 = .ok (.iconst 0, 1) := by decide +kernel
theorem dX8_which_48 : decode cX8_which 48 = .ok (.istore_n 3, 1) := by decide +kernel
theorem dX8_which_49 : decode cX8_which 49 = .ok (.iinc 4 1, 3) := by decide +kernel
theorem dX8_which_52 : decode cX8_which 52 = .ok (.goto (-32), 3) := by decide +kernel
theorem dX8_which_55 : decode cX8_which 55 = .ok (.iload_n 1, 1) := by decide +kernel
theorem dX8_which_56 : decode cX8_which 56 = .ok (.iload_n 3, 1) := by decide +kernel
theorem dX8_which_57 : decode cX8_which 57 = .ok (.ifCond .eq 9, 3) := by decide +kernel
theorem dX8_which_60 : decode cX8_which 60 = .ok (.iconst 1, 1) := by decide +kernel
theorem dX8_which_61 : decode cX8_which 61 = .ok (.iload_n 2, 1) := by decide +kernel
theorem dX8_which_62 : decode cX8_which 62 = .ok (.ishl, 1) := by decide +kernel
theorem dX8_which_63 : decode cX8_which 63 = .ok (.goto 4, 3) := by decide +kernel
theorem dX8_which_66 : decode cX8_which 66 = .ok (.iconst 0, 1) := by decide +kernel
theorem dX8_which_67 : decode cX8_which 67 = .ok (.ior, 1) := by decide +kernel
theorem dX8_which_68 : decode cX8_which 68 = .ok (.istore_n 1, 1) := by decide +kernel
theorem dX8_which_69 : decode cX8_which 69 = .ok (.iinc 2 1, 3) := by decide +kernel
theorem dX8_which_72 : decode cX8_which 72 = .ok (.goto (-63), 3) := by decide +kernel
theorem dX8_which_75 : decode cX8_which 75 = .ok (.iload_n 1, 1) := by decide +kernel
theorem dX8_which_76 : decode cX8_which 76 = .ok (.ireturn, 1) := by decide +kernel
theorem dX8_divisor_0 : decode cX8_divisor 0 = .ok (.iload_n 0, 1) := by decide +kernel
theorem dX8_divisor_1 : decode cX8_divisor 1 = .ok (.ifCond .ge 8, 3) := by decide +kernel
theorem dX8_divisor_4 : decode cX8_divisor 4 = .ok (.iload_n 0, 1) := by decide +kernel
theorem dX8_divisor_5 : decode cX8_divisor 5 = .ok (.ineg, 1) := by decide +kernel
theorem dX8_divisor_6 : decode cX8_divisor 6 = .ok (.goto 4, 3) := by decide +kernel
theorem dX8_divisor_9 : decode cX8_divisor 9 = .ok (.iload_n 0, 1) := by decide +kernel
theorem dX8_divisor_10 : decode cX8_divisor 10 = .ok (.istore_n 2, 1) := by decide +kernel
theorem dX8_divisor_11 : decode cX8_divisor 11 = .ok (.iload_n 1, 1) := by decide +kernel
theorem dX8_divisor_12 : decode cX8_divisor 12 = .ok (.istore_n 3, 1) := by decide +kernel
theorem dX8_divisor_13 : decode cX8_divisor 13 = .ok (.iload_n 3, 1) := by decide +kernel
theorem dX8_divisor_14 : decode cX8_divisor 14 = .ok (.ifCond .eq 16, 3) := by decide +kernel
theorem dX8_divisor_17 : decode cX8_divisor 17 = .ok (.iload_n 2, 1) := by decide +kernel
theorem dX8_divisor_18 : decode cX8_divisor 18 = .ok (.iload_n 3, 1) := by decide +kernel
theorem dX8_divisor_19 : decode cX8_divisor 19 = .ok (.irem, 1) := by decide +kernel
theorem dX8_divisor_20 : decode cX8_divisor 20 = .ok (.istore 4, 2) := by decide +kernel
theorem dX8_divisor_22 : decode cX8_divisor 22 = .ok (.iload_n 3, 1) := by decide +kernel
theorem dX8_divisor_23 : decode cX8_divisor 23 = .ok (.istore_n 2, 1) := by decide +kernel
theorem dX8_divisor_24 : decode cX8_divisor 24 = .ok (.iload 4, 2) := by decide +kernel
theorem dX8_divisor_26 : decode cX8_divisor 26 = .ok (.istore_n 3, 1) := by decide +kernel
theorem dX8_divisor_27 : decode cX8_divisor 27 = .ok (.goto (-14), 3) := by decide +kernel
theorem dX8_divisor_30 : decode cX8_divisor 30 = .ok (.iload_n 2, 1) := by decide +kernel
theorem dX8_divisor_31 : decode cX8_divisor 31 = .ok (.ireturn, 1) := by decide +kernel
theorem dX8_fraction_0 : decode cX8_fraction 0 = .ok (.iload_n 0, 1) := by decide +kernel
theorem dX8_fraction_1 : decode cX8_fraction 1 = .ok (.iload_n 1, 1) := by decide +kernel
theorem dX8_fraction_2 : decode cX8_fraction 2 = .ok (.invokestatic 281, 3) := by decide +kernel
theorem dX8_fraction_5 : decode cX8_fraction 5 = .ok (.istore_n 3, 1) := by decide +kernel
theorem dX8_fraction_6 : decode cX8_fraction 6 = .ok (.iload_n 2, 1) := by decide +kernel
theorem dX8_fraction_7 : decode cX8_fraction 7 = .ok (.ifCond .eq 9, 3) := by decide +kernel
theorem dX8_fraction_10 : decode cX8_fraction 10 = .ok (.iload_n 0, 1) := by decide +kernel
theorem dX8_fraction_11 : decode cX8_fraction 11 = .ok (.iload_n 3, 1) := by decide +kernel
theorem dX8_fraction_12 : decode cX8_fraction 12 = .ok (.idiv, 1) := by decide +kernel
theorem dX8_fraction_13 : decode cX8_fraction 13 = .ok (.goto 6, 3) := by decide +kernel
theorem dX8_fraction_16 : decode cX8_fraction 16 = .ok (.iload_n 1, 1) := by decide +kernel
theorem dX8_fraction_17 : decode cX8_fraction 17 = .ok (.iload_n 3, 1) := by decide +kernel
theorem dX8_fraction_18 : decode cX8_fraction 18 = .ok (.idiv, 1) := by decide +kernel
theorem dX8_fraction_19 : decode cX8_fraction 19 = .ok (.ireturn, 1) := by decide +kernel
theorem dX8_factorial_0 : decode cX8_factorial 0 = .ok (.iconst 1, 1) := by decide +kernel
theorem dX8_factorial_1 : decode cX8_factorial 1 = .ok (.istore_n 1, 1) := by decide +kernel
theorem dX8_factorial_2 : decode cX8_factorial 2 = .ok (.iconst 2, 1) := by decide +kernel
theorem dX8_factorial_3 : decode cX8_factorial 3 = .ok (.istore_n 2, 1) := by decide +kernel
theorem dX8_factorial_4 : decode cX8_factorial 4 = .ok (.iload_n 2, 1) := by decide +kernel
theorem dX8_factorial_5 : decode cX8_factorial 5 = .ok (.iload_n 0, 1) := by decide +kernel
theorem dX8_factorial_6 : decode cX8_factorial 6 = .ok (.if_icmp .gt 13, 3) := by decide +kernel
theorem dX8_factorial_9 : decode cX8_factorial 9 = .ok (.iload_n 1, 1) := by decide +kernel
theorem dX8_factorial_10 : decode cX8_factorial 10 = .ok (.iload_n 2, 1) := by decide +kernel
theorem dX8_factorial_11 : decode cX8_factorial 11 = .ok (.imul, 1) := by decide +kernel
theorem dX8_factorial_12 : decode cX8_factorial 12 = .ok (.istore_n 1, 1) := by decide +kernel
theorem dX8_factorial_13 : decode cX8_factorial 13 = .ok (.iinc 2 1, 3) := by decide +kernel
theorem dX8_factorial_16 : decode cX8_factorial 16 = .ok (.goto (-12), 3) := by decide +kernel
theorem dX8_factorial_19 : decode cX8_factorial 19 = .ok (.iload_n 1, 1) := by decide +kernel
theorem dX8_factorial_20 : decode cX8_factorial 20 = .ok (.ireturn, 1) := by decide +kernel
theorem dX8_hadBy_0 : decode cX8_hadBy 0 = .ok (.iconst 0, 1) := by decide +kernel
theorem dX8_hadBy_1 : decode cX8_hadBy 1 = .ok (.istore_n 2, 1) := by decide +kernel
theorem dX8_hadBy_2 : decode cX8_hadBy 2 = .ok (.iconst 0, 1) := by decide +kernel
theorem dX8_hadBy_3 : decode cX8_hadBy 3 = .ok (.istore_n 3, 1) := by decide +kernel
theorem dX8_hadBy_4 : decode cX8_hadBy 4 = .ok (.iload_n 3, 1) := by decide +kernel
theorem dX8_hadBy_5 : decode cX8_hadBy 5 = .ok (.aload_n 0, 1) := by decide +kernel
theorem dX8_hadBy_6 : decode cX8_hadBy 6 = .ok (.getfield 78, 3) := by decide +kernel
theorem dX8_hadBy_9 : decode cX8_hadBy 9 = .ok (.if_icmp .ge 32, 3) := by decide +kernel
theorem dX8_hadBy_12 : decode cX8_hadBy 12 = .ok (.iload_n 2, 1) := by decide +kernel
theorem dX8_hadBy_13 : decode cX8_hadBy 13 = .ok (.iload_n 1, 1) := by decide +kernel
theorem dX8_hadBy_14 : decode cX8_hadBy 14 = .ok (.iload_n 3, 1) := by decide +kernel
theorem dX8_hadBy_15 : decode cX8_hadBy 15 = .ok (.invokestatic 166, 3) := by decide +kernel
theorem dX8_hadBy_18 : decode cX8_hadBy 18 = .ok (.ifCond .eq 14, 3) := by decide +kernel
theorem dX8_hadBy_21 : decode cX8_hadBy 21 = .ok (.aload_n 0, 1) := by decide +kernel
theorem dX8_hadBy_22 : decode cX8_hadBy 22 = .ok (.getfield 44, 3) := by decide +kernel
theorem dX8_hadBy_25 : decode cX8_hadBy 25 = .ok (.iload_n 3, 1) := by decide +kernel
theorem dX8_hadBy_26 : decode cX8_hadBy 26 = .ok (.invokestatic 197, 3) := by decide +kernel
theorem dX8_hadBy_29 : decode cX8_hadBy 29 = .ok (.goto 4, 3) := by decide +kernel
theorem dX8_hadBy_32 : decode cX8_hadBy 32 = .ok (.iconst 0, 1) := by decide +kernel
theorem dX8_hadBy_33 : decode cX8_hadBy 33 = .ok (.ior, 1) := by decide +kernel
theorem dX8_hadBy_34 : decode cX8_hadBy 34 = .ok (.istore_n 2, 1) := by decide +kernel
theorem dX8_hadBy_35 : decode cX8_hadBy 35 = .ok (.iinc 3 1, 3) := by decide +kernel
theorem dX8_hadBy_38 : decode cX8_hadBy 38 = .ok (.goto (-34), 3) := by decide +kernel
theorem dX8_hadBy_41 : decode cX8_hadBy 41 = .ok (.iload_n 2, 1) := by decide +kernel
theorem dX8_hadBy_42 : decode cX8_hadBy 42 = .ok (.invokestatic 226, 3) := by decide +kernel
theorem dX8_hadBy_45 : decode cX8_hadBy 45 = .ok (.ireturn, 1) := by decide +kernel
theorem dX8_share_0 : decode cX8_share 0 = .ok (.aload_n 0, 1) := by decide +kernel
theorem dX8_share_1 : decode cX8_share 1 = .ok (.iconst 0, 1) := by decide +kernel
theorem dX8_share_2 : decode cX8_share 2 = .ok (.putfield 75, 3) := by decide +kernel
theorem dX8_share_5 : decode cX8_share 5 = .ok (.aload_n 0, 1) := by decide +kernel
theorem dX8_share_6 : decode cX8_share 6 = .ok (.iload_n 1, 1) := by decide +kernel
theorem dX8_share_7 : decode cX8_share 7 = .ok (.invokevirtual 200, 3) := by decide +kernel
theorem dX8_share_10 : decode cX8_share 10 = .ok (.ifCond .eq 5, 3) := by decide +kernel
theorem dX8_share_13 : decode cX8_share 13 = .ok (.iconst (-1), 1) := by decide +kernel
theorem dX8_share_14 : decode cX8_share 14 = .ok (.ireturn, 1) := by decide +kernel
theorem dX8_share_15 : decode cX8_share 15 = .ok (.iconst 0, 1) := by decide +kernel
theorem dX8_share_16 : decode cX8_share 16 = .ok (.istore_n 3, 1) := by decide +kernel
theorem dX8_share_17 : decode cX8_share 17 = .ok (.iconst 0, 1) := by decide +kernel
theorem dX8_share_18 : decode cX8_share 18 = .ok (.istore 4, 2) := by decide +kernel
theorem dX8_share_20 : decode cX8_share 20 = .ok (.iload 4, 2) := by decide +kernel
theorem dX8_share_22 : decode cX8_share 22 = .ok (.iconst 1, 1) := by decide +kernel
theorem dX8_share_23 : decode cX8_share 23 = .ok (.aload_n 0, 1) := by decide +kernel
theorem dX8_share_24 : decode cX8_share 24 = .ok (.getfield 78, 3) := by decide +kernel
theorem dX8_share_27 : decode cX8_share 27 = .ok (.ishl, 1) := by decide +kernel
theorem dX8_share_28 : decode cX8_share 28 = .ok (.if_icmp .ge 68, 3) := by decide +kernel
theorem dX8_share_31 : decode cX8_share 31 = .ok (.iload 4, 2) := by decide +kernel
theorem dX8_share_33 : decode cX8_share 33 = .ok (.invokestatic 226, 3) := by decide +kernel
theorem dX8_share_36 : decode cX8_share 36 = .ok (.istore 5, 2) := by decide +kernel
theorem dX8_share_38 : decode cX8_share 38 = .ok (.iload_n 3, 1) := by decide +kernel
theorem dX8_share_39 : decode cX8_share 39 = .ok (.iload 4, 2) := by decide +kernel
theorem dX8_share_41 : decode cX8_share 41 = .ok (.iload_n 1, 1) := by decide +kernel
theorem dX8_share_42 : decode cX8_share 42 = .ok (.invokestatic 166, 3) := by decide +kernel
theorem dX8_share_45 : decode cX8_share 45 = .ok (.ifCond .eq 7, 3) := by decide +kernel
theorem dX8_share_48 : decode cX8_share 48 = .ok (.iconst 0, 1) := by decide +kernel
theorem dX8_share_49 : decode cX8_share 49 = .ok (.goto 39, 3) := by decide +kernel
theorem dX8_share_52 : decode cX8_share 52 = .ok (.iload 5, 2) := by decide +kernel
theorem dX8_share_54 : decode cX8_share 54 = .ok (.invokestatic 284, 3) := by decide +kernel
theorem dX8_share_57 : decode cX8_share 57 = .ok (.aload_n 0, 1) := by decide +kernel
theorem dX8_share_58 : decode cX8_share 58 = .ok (.getfield 78, 3) := by decide +kernel
theorem dX8_share_61 : decode cX8_share 61 = .ok (.iconst 1, 1) := by decide +kernel
theorem dX8_share_62 : decode cX8_share 62 = .ok (.isub, 1) := by decide +kernel
theorem dX8_share_63 : decode cX8_share 63 = .ok (.iload 5, 2) := by decide +kernel
theorem dX8_share_65 : decode cX8_share 65 = .ok (.isub, 1) := by decide +kernel
theorem dX8_share_66 : decode cX8_share 66 = .ok (.invokestatic 284, 3) := by decide +kernel
theorem dX8_share_69 : decode cX8_share 69 = .ok (.imul, 1) := by decide +kernel
theorem dX8_share_70 : decode cX8_share 70 = .ok (.aload_n 0, 1) := by decide +kernel
theorem dX8_share_71 : decode cX8_share 71 = .ok (.iload 4, 2) := by decide +kernel
theorem dX8_share_73 : decode cX8_share 73 = .ok (.iconst 1, 1) := by decide +kernel
theorem dX8_share_74 : decode cX8_share 74 = .ok (.iload_n 1, 1) := by decide +kernel
theorem dX8_share_75 : decode cX8_share 75 = .ok (.ishl, 1) := by decide +kernel
theorem dX8_share_76 : decode cX8_share 76 = .ok (.ior, 1) := by decide +kernel
theorem dX8_share_77 : decode cX8_share 77 = .ok (.invokevirtual 287, 3) := by decide +kernel
theorem dX8_share_80 : decode cX8_share 80 = .ok (.aload_n 0, 1) := by decide +kernel
theorem dX8_share_81 : decode cX8_share 81 = .ok (.iload 4, 2) := by decide +kernel
theorem dX8_share_83 : decode cX8_share 83 = .ok (.invokevirtual 287, 3) := by decide +kernel
theorem dX8_share_86 : decode cX8_share 86 = .ok (.isub, 1) := by decide +kernel
theorem dX8_share_87 : decode cX8_share 87 = .ok (.imul, 1) := by decide +kernel
theorem dX8_share_88 : decode cX8_share 88 = .ok (.iadd, 1) := by decide +kernel
theorem dX8_share_89 : decode cX8_share 89 = .ok (.istore_n 3, 1) := by decide +kernel
theorem dX8_share_90 : decode cX8_share 90 = .ok (.iinc 4 1, 3) := by decide +kernel
theorem dX8_share_93 : decode cX8_share 93 = .ok (.goto (-73), 3) := by decide +kernel
theorem dX8_share_96 : decode cX8_share 96 = .ok (.iload_n 3, 1) := by decide +kernel
theorem dX8_share_97 : decode cX8_share 97 = .ok (.aload_n 0, 1) := by decide +kernel
theorem dX8_share_98 : decode cX8_share 98 = .ok (.getfield 78, 3) := by decide +kernel
theorem dX8_share_101 : decode cX8_share 101 = .ok (.invokestatic 284, 3) := by decide +kernel
theorem dX8_share_104 : decode cX8_share 104 = .ok (.iload_n 2, 1) := by decide +kernel
theorem dX8_share_105 : decode cX8_share 105 = .ok (.invokestatic 290, 3) := by decide +kernel
theorem dX8_share_108 : decode cX8_share 108 = .ok (.ireturn, 1) := by decide +kernel
theorem dX8_isRight_0 : decode cX8_isRight 0 = .ok (.aload_n 0, 1) := by decide +kernel
theorem dX8_isRight_1 : decode cX8_isRight 1 = .ok (.invokevirtual 244, 3) := by decide +kernel
theorem dX8_isRight_4 : decode cX8_isRight 4 = .ok (.iconst 0, 1) := by decide +kernel
theorem dX8_isRight_5 : decode cX8_isRight 5 = .ok (.istore 4, 2) := by decide +kernel
theorem dX8_isRight_7 : decode cX8_isRight 7 = .ok (.iconst 0, 1) := by decide +kernel
theorem dX8_isRight_8 : decode cX8_isRight 8 = .ok (.istore 5, 2) := by decide +kernel
theorem dX8_isRight_10 : decode cX8_isRight 10 = .ok (.iload 5, 2) := by decide +kernel
theorem dX8_isRight_12 : decode cX8_isRight 12 = .ok (.aload_n 0, 1) := by decide +kernel
theorem dX8_isRight_13 : decode cX8_isRight 13 = .ok (.getfield 78, 3) := by decide +kernel
theorem dX8_isRight_16 : decode cX8_isRight 16 = .ok (.if_icmp .ge 61, 3) := by decide +kernel
theorem dX8_isRight_19 : decode cX8_isRight 19 = .ok (.iload 4, 2) := by decide +kernel
theorem dX8_isRight_21 : decode cX8_isRight 21 = .ok (.ifCond .ne 24, 3) := by decide +kernel
theorem dX8_isRight_24 : decode cX8_isRight 24 = .ok (.iload 5, 2) := by decide +kernel
theorem dX8_isRight_26 : decode cX8_isRight 26 = .ok (.iload_n 1, 1) := by decide +kernel
theorem dX8_isRight_27 : decode cX8_isRight 27 = .ok (.if_icmp .eq 22, 3) := by decide +kernel
theorem dX8_isRight_30 : decode cX8_isRight 30 = .ok (.aload_n 0, 1) := by decide +kernel
theorem dX8_isRight_31 : decode cX8_isRight 31 = .ok (.getfield 44, 3) := by decide +kernel
theorem dX8_isRight_34 : decode cX8_isRight 34 = .ok (.iload 5, 2) := by decide +kernel
theorem dX8_isRight_36 : decode cX8_isRight 36 = .ok (.iload_n 2, 1) := by decide +kernel
theorem dX8_isRight_37 : decode cX8_isRight 37 = .ok (.invokestatic 115, 3) := by decide +kernel
theorem dX8_isRight_40 : decode cX8_isRight 40 = .ok (.bipush (-9), 2) := by decide +kernel
theorem dX8_isRight_42 : decode cX8_isRight 42 = .ok (.if_icmp .eq 7, 3) := by decide +kernel
theorem dX8_isRight_45 : decode cX8_isRight 45 = .ok (.iconst 1, 1) := by decide +kernel
theorem dX8_isRight_46 : decode cX8_isRight 46 = .ok (.goto 4, 3) := by decide +kernel
theorem dX8_isRight_49 : decode cX8_isRight 49 = .ok (.iconst 0, 1) := by decide +kernel
theorem dX8_isRight_50 : decode cX8_isRight 50 = .ok (.istore 4, 2) := by decide +kernel
theorem dX8_isRight_52 : decode cX8_isRight 52 = .ok (.iload_n 3, 1) := by decide +kernel
theorem dX8_isRight_53 : decode cX8_isRight 53 = .ok (.iload 5, 2) := by decide +kernel
theorem dX8_isRight_55 : decode cX8_isRight 55 = .ok (.invokestatic 166, 3) := by decide +kernel
theorem dX8_isRight_58 : decode cX8_isRight 58 = .ok (.ifCond .ne 13, 3) := by decide +kernel
theorem dX8_isRight_61 : decode cX8_isRight 61 = .ok (.aload_n 0, 1) := by decide +kernel
theorem dX8_isRight_62 : decode cX8_isRight 62 = .ok (.aload_n 0, 1) := by decide +kernel
theorem dX8_isRight_63 : decode cX8_isRight 63 = .ok (.getfield 47, 3) := by decide +kernel
theorem dX8_isRight_66 : decode cX8_isRight 66 = .ok (.iload 5, 2) := by decide +kernel
theorem dX8_isRight_68 : decode cX8_isRight 68 = .ok (.invokevirtual 183, 3) := by decide +kernel
theorem dX8_isRight_71 : decode cX8_isRight 71 = .ok (.iinc 5 1, 3) := by decide +kernel
theorem dX8_isRight_74 : decode cX8_isRight 74 = .ok (.goto (-64), 3) := by decide +kernel
theorem dX8_isRight_77 : decode cX8_isRight 77 = .ok (.aload_n 0, 1) := by decide +kernel
theorem dX8_isRight_78 : decode cX8_isRight 78 = .ok (.getfield 47, 3) := by decide +kernel
theorem dX8_isRight_81 : decode cX8_isRight 81 = .ok (.bipush 118, 2) := by decide +kernel
theorem dX8_isRight_83 : decode cX8_isRight 83 = .ok (.iaload, 1) := by decide +kernel
theorem dX8_isRight_84 : decode cX8_isRight 84 = .ok (.istore 5, 2) := by decide +kernel
theorem dX8_isRight_86 : decode cX8_isRight 86 = .ok (.aload_n 0, 1) := by decide +kernel
theorem dX8_isRight_87 : decode cX8_isRight 87 = .ok (.aload_n 0, 1) := by decide +kernel
theorem dX8_isRight_88 : decode cX8_isRight 88 = .ok (.getfield 47, 3) := by decide +kernel
theorem dX8_isRight_91 : decode cX8_isRight 91 = .ok (.iload_n 1, 1) := by decide +kernel
theorem dX8_isRight_92 : decode cX8_isRight 92 = .ok (.iload_n 2, 1) := by decide +kernel
theorem dX8_isRight_93 : decode cX8_isRight 93 = .ok (.invokevirtual 217, 3) := by decide +kernel
theorem dX8_isRight_96 : decode cX8_isRight 96 = .ok (.istore 6, 2) := by decide +kernel
theorem dX8_isRight_98 : decode cX8_isRight 98 = .ok (.iload 6, 2) := by decide +kernel
theorem dX8_isRight_100 : decode cX8_isRight 100 = .ok (.bipush 10, 2) := by decide +kernel
theorem dX8_isRight_102 : decode cX8_isRight 102 = .ok (.if_icmp .eq 27, 3) := by decide +kernel
theorem dX8_isRight_105 : decode cX8_isRight 105 = .ok (.aload_n 0, 1) := by decide +kernel
theorem dX8_isRight_106 : decode cX8_isRight 106 = .ok (.getfield 47, 3) := by decide +kernel
theorem dX8_isRight_109 : decode cX8_isRight 109 = .ok (.bipush 118, 2) := by decide +kernel
theorem dX8_isRight_111 : decode cX8_isRight 111 = .ok (.iaload, 1) := by decide +kernel
theorem dX8_isRight_112 : decode cX8_isRight 112 = .ok (.iload 5, 2) := by decide +kernel
theorem dX8_isRight_114 : decode cX8_isRight 114 = .ok (.if_icmp .ne 19, 3) := by decide +kernel
theorem dX8_isRight_117 : decode cX8_isRight 117 = .ok (.iload 6, 2) := by decide +kernel
theorem dX8_isRight_119 : decode cX8_isRight 119 = .ok (.bipush (-9), 2) := by decide +kernel
theorem dX8_isRight_121 : decode cX8_isRight 121 = .ok (.if_icmp .ne 8, 3) := by decide +kernel
theorem dX8_isRight_124 : decode cX8_isRight 124 = .ok (.iload 4, 2) := by decide +kernel
theorem dX8_isRight_126 : decode cX8_isRight 126 = .ok (.ifCond .ne 7, 3) := by decide +kernel
theorem dX8_isRight_129 : decode cX8_isRight 129 = .ok (.iconst 1, 1) := by decide +kernel
theorem dX8_isRight_130 : decode cX8_isRight 130 = .ok (.goto 4, 3) := by decide +kernel
theorem dX8_isRight_133 : decode cX8_isRight 133 = .ok (.iconst 0, 1) := by decide +kernel
theorem dX8_isRight_134 : decode cX8_isRight 134 = .ok (.ireturn, 1) := by decide +kernel
theorem dX8_lost_0 : decode cX8_lost 0 = .ok (.aload_n 0, 1) := by decide +kernel
theorem dX8_lost_1 : decode cX8_lost 1 = .ok (.iconst 0, 1) := by decide +kernel
theorem dX8_lost_2 : decode cX8_lost 2 = .ok (.putfield 75, 3) := by decide +kernel
theorem dX8_lost_5 : decode cX8_lost 5 = .ok (.aload_n 0, 1) := by decide +kernel
theorem dX8_lost_6 : decode cX8_lost 6 = .ok (.iload_n 1, 1) := by decide +kernel
theorem dX8_lost_7 : decode cX8_lost 7 = .ok (.invokevirtual 200, 3) := by decide +kernel
theorem dX8_lost_10 : decode cX8_lost 10 = .ok (.ifCond .ne 10, 3) := by decide +kernel
theorem dX8_lost_13 : decode cX8_lost 13 = .ok (.iload_n 2, 1) := by decide +kernel
theorem dX8_lost_14 : decode cX8_lost 14 = .ok (.invokestatic 211, 3) := by decide +kernel
theorem dX8_lost_17 : decode cX8_lost 17 = .ok (.ifCond .eq 5, 3) := by decide +kernel
theorem dX8_lost_20 : decode cX8_lost 20 = .ok (.iconst (-1), 1) := by decide +kernel
theorem dX8_lost_21 : decode cX8_lost 21 = .ok (.ireturn, 1) := by decide +kernel
theorem dX8_lost_22 : decode cX8_lost 22 = .ok (.iload_n 3, 1) := by decide +kernel
theorem dX8_lost_23 : decode cX8_lost 23 = .ok (.i2l, 1) := by decide +kernel
theorem dX8_lost_24 : decode cX8_lost 24 = .ok (.lconst 0, 1) := by decide +kernel
theorem dX8_lost_25 : decode cX8_lost 25 = .ok (.ldc2_w 294, 3) := by decide +kernel
theorem dX8_lost_28 : decode cX8_lost 28 = .ok (.invokestatic 81, 3) := by decide +kernel
theorem dX8_lost_31 : decode cX8_lost 31 = .ok (.ifCond .ne 6, 3) := by decide +kernel
theorem dX8_lost_34 : decode cX8_lost 34 = .ok (.bipush (-2), 2) := by decide +kernel
theorem dX8_lost_36 : decode cX8_lost 36 = .ok (.ireturn, 1) := by decide +kernel
theorem dX8_lost_37 : decode cX8_lost 37 = .ok (.iconst 0, 1) := by decide +kernel
theorem dX8_lost_38 : decode cX8_lost 38 = .ok (.istore 5, 2) := by decide +kernel
theorem dX8_lost_40 : decode cX8_lost 40 = .ok (.iconst 0, 1) := by decide +kernel
theorem dX8_lost_41 : decode cX8_lost 41 = .ok (.istore 6, 2) := by decide +kernel
theorem dX8_lost_43 : decode cX8_lost 43 = .ok (.iload 6, 2) := by decide +kernel
theorem dX8_lost_45 : decode cX8_lost 45 = .ok (.iconst 1, 1) := by decide +kernel
theorem dX8_lost_46 : decode cX8_lost 46 = .ok (.aload_n 0, 1) := by decide +kernel
theorem dX8_lost_47 : decode cX8_lost 47 = .ok (.getfield 78, 3) := by decide +kernel
theorem dX8_lost_50 : decode cX8_lost 50 = .ok (.ishl, 1) := by decide +kernel
theorem dX8_lost_51 : decode cX8_lost 51 = .ok (.if_icmp .ge 56, 3) := by decide +kernel
theorem dX8_lost_54 : decode cX8_lost 54 = .ok (.iload 5, 2) := by decide +kernel
theorem dX8_lost_56 : decode cX8_lost 56 = .ok (.aload_n 0, 1) := by decide +kernel
theorem dX8_lost_57 : decode cX8_lost 57 = .ok (.iload_n 1, 1) := by decide +kernel
theorem dX8_lost_58 : decode cX8_lost 58 = .ok (.iload_n 2, 1) := by decide +kernel
theorem dX8_lost_59 : decode cX8_lost 59 = .ok (.iload 6, 2) := by decide +kernel
theorem dX8_lost_61 : decode cX8_lost 61 = .ok (.invokevirtual 296, 3) := by decide +kernel
theorem dX8_lost_64 : decode cX8_lost 64 = .ok (.ifCond .eq 33, 3) := by decide +kernel
theorem dX8_lost_67 : decode cX8_lost 67 = .ok (.iload_n 3, 1) := by decide +kernel
theorem dX8_lost_68 : decode cX8_lost 68 = .ok (.iload 6, 2) := by decide +kernel
theorem dX8_lost_70 : decode cX8_lost 70 = .ok (.invokestatic 226, 3) := by decide +kernel
theorem dX8_lost_73 : decode cX8_lost 73 = .ok (.invokestatic 241, 3) := by decide +kernel
theorem dX8_lost_76 : decode cX8_lost 76 = .ok (.bipush 10, 2) := by decide +kernel
theorem dX8_lost_78 : decode cX8_lost 78 = .ok (.iload_n 3, 1) := by decide +kernel
theorem dX8_lost_79 : decode cX8_lost 79 = .ok (.isub, 1) := by decide +kernel
theorem dX8_lost_80 : decode cX8_lost 80 = .ok (.aload_n 0, 1) := by decide +kernel
theorem dX8_lost_81 : decode cX8_lost 81 = .ok (.getfield 78, 3) := by decide +kernel
theorem dX8_lost_84 : decode cX8_lost 84 = .ok (.iload 6, 2) := by decide +kernel
theorem dX8_lost_86 : decode cX8_lost 86 = .ok (.invokestatic 226, 3) := by decide +kernel
theorem dX8_lost_89 : decode cX8_lost 89 = .ok (.isub, 1) := by decide +kernel
theorem dX8_lost_90 : decode cX8_lost 90 = .ok (.invokestatic 241, 3) := by decide +kernel
theorem dX8_lost_93 : decode cX8_lost 93 = .ok (.imul, 1) := by decide +kernel
theorem dX8_lost_94 : decode cX8_lost 94 = .ok (.goto 4, 3) := by decide +kernel
theorem dX8_lost_97 : decode cX8_lost 97 = .ok (.iconst 0, 1) := by decide +kernel
theorem dX8_lost_98 : decode cX8_lost 98 = .ok (.iadd, 1) := by decide +kernel
theorem dX8_lost_99 : decode cX8_lost 99 = .ok (.istore 5, 2) := by decide +kernel
theorem dX8_lost_101 : decode cX8_lost 101 = .ok (.iinc 6 1, 3) := by decide +kernel
theorem dX8_lost_104 : decode cX8_lost 104 = .ok (.goto (-61), 3) := by decide +kernel
theorem dX8_lost_107 : decode cX8_lost 107 = .ok (.iload 5, 2) := by decide +kernel
theorem dX8_lost_109 : decode cX8_lost 109 = .ok (.bipush 10, 2) := by decide +kernel
theorem dX8_lost_111 : decode cX8_lost 111 = .ok (.aload_n 0, 1) := by decide +kernel
theorem dX8_lost_112 : decode cX8_lost 112 = .ok (.getfield 78, 3) := by decide +kernel
theorem dX8_lost_115 : decode cX8_lost 115 = .ok (.invokestatic 241, 3) := by decide +kernel
theorem dX8_lost_118 : decode cX8_lost 118 = .ok (.iload 4, 2) := by decide +kernel
theorem dX8_lost_120 : decode cX8_lost 120 = .ok (.invokestatic 290, 3) := by decide +kernel
theorem dX8_lost_123 : decode cX8_lost 123 = .ok (.ireturn, 1) := by decide +kernel
theorem dX8_seed_0 : decode cX8_seed 0 = .ok (.aload_n 0, 1) := by decide +kernel
theorem dX8_seed_1 : decode cX8_seed 1 = .ok (.iconst 0, 1) := by decide +kernel
theorem dX8_seed_2 : decode cX8_seed 2 = .ok (.putfield 75, 3) := by decide +kernel
theorem dX8_seed_5 : decode cX8_seed 5 = .ok (.aload_n 0, 1) := by decide +kernel
theorem dX8_seed_6 : decode cX8_seed 6 = .ok (.getfield 299, 3) := by decide +kernel
theorem dX8_seed_9 : decode cX8_seed 9 = .ok (.lstore_n 3, 1) := by decide +kernel
theorem dX8_seed_10 : decode cX8_seed 10 = .ok (.aload_n 0, 1) := by decide +kernel
theorem dX8_seed_11 : decode cX8_seed 11 = .ok (.lload_n 1, 1) := by decide +kernel
theorem dX8_seed_12 : decode cX8_seed 12 = .ok (.putfield 299, 3) := by decide +kernel
theorem dX8_seed_15 : decode cX8_seed 15 = .ok (.lload_n 3, 1) := by decide +kernel
theorem dX8_seed_16 : decode cX8_seed 16 = .ok (.lreturn, 1) := by decide +kernel
theorem dX8_drawn_0 : decode cX8_drawn 0 = .ok (.aload_n 0, 1) := by decide +kernel
theorem dX8_drawn_1 : decode cX8_drawn 1 = .ok (.iconst 0, 1) := by decide +kernel
theorem dX8_drawn_2 : decode cX8_drawn 2 = .ok (.putfield 75, 3) := by decide +kernel
theorem dX8_drawn_5 : decode cX8_drawn 5 = .ok (.iload_n 1, 1) := by decide +kernel
theorem dX8_drawn_6 : decode cX8_drawn 6 = .ok (.i2l, 1) := by decide +kernel
theorem dX8_drawn_7 : decode cX8_drawn 7 = .ok (.lconst 1, 1) := by decide +kernel
theorem dX8_drawn_8 : decode cX8_drawn 8 = .ok (.ldc2_w 303, 3) := by decide +kernel
theorem dX8_drawn_11 : decode cX8_drawn 11 = .ok (.invokestatic 81, 3) := by decide +kernel
theorem dX8_drawn_14 : decode cX8_drawn 14 = .ok (.ifCond .ne 6, 3) := by decide +kernel
theorem dX8_drawn_17 : decode cX8_drawn 17 = .ok (.bipush (-2), 2) := by decide +kernel
theorem dX8_drawn_19 : decode cX8_drawn 19 = .ok (.ireturn, 1) := by decide +kernel
theorem dX8_drawn_20 : decode cX8_drawn 20 = .ok (.aload_n 0, 1) := by decide +kernel
theorem dX8_drawn_21 : decode cX8_drawn 21 = .ok (.invokevirtual 244, 3) := by decide +kernel
theorem dX8_drawn_24 : decode cX8_drawn 24 = .ok (.iconst 0, 1) := by decide +kernel
theorem dX8_drawn_25 : decode cX8_drawn 25 = .ok (.istore_n 2, 1) := by decide +kernel
theorem dX8_drawn_26 : decode cX8_drawn 26 = .ok (.iload_n 2, 1) := by decide +kernel
theorem dX8_drawn_27 : decode cX8_drawn 27 = .ok (.iload_n 1, 1) := by decide +kernel
theorem dX8_drawn_28 : decode cX8_drawn 28 = .ok (.if_icmp .ge 63, 3) := by decide +kernel
theorem dX8_drawn_31 : decode cX8_drawn 31 = .ok (.aload_n 0, 1) := by decide +kernel
theorem dX8_drawn_32 : decode cX8_drawn 32 = .ok (.aload_n 0, 1) := by decide +kernel
theorem dX8_drawn_33 : decode cX8_drawn 33 = .ok (.getfield 299, 3) := by decide +kernel
theorem dX8_drawn_36 : decode cX8_drawn 36 = .ok (.ldc2_w 305, 3) := by decide +kernel
theorem dX8_drawn_39 : decode cX8_drawn 39 = .ok (.lmul, 1) := by decide +kernel
theorem dX8_drawn_40 : decode cX8_drawn 40 = .ok (.ldc2_w 307, 3) := by decide +kernel
theorem dX8_drawn_43 : decode cX8_drawn 43 = .ok (.ladd, 1) := by decide +kernel
theorem dX8_drawn_44 : decode cX8_drawn 44 = .ok (.putfield 299, 3) := by decide +kernel
theorem dX8_drawn_47 : decode cX8_drawn 47 = .ok (.aload_n 0, 1) := by decide +kernel
theorem dX8_drawn_48 : decode cX8_drawn 48 = .ok (.getfield 299, 3) := by decide +kernel
theorem dX8_drawn_51 : decode cX8_drawn 51 = .ok (.bipush 33, 2) := by decide +kernel
theorem dX8_drawn_53 : decode cX8_drawn 53 = .ok (.lushr, 1) := by decide +kernel
theorem dX8_drawn_54 : decode cX8_drawn 54 = .ok (.l2i, 1) := by decide +kernel
theorem dX8_drawn_55 : decode cX8_drawn 55 = .ok (.istore_n 3, 1) := by decide +kernel
theorem dX8_drawn_56 : decode cX8_drawn 56 = .ok (.aload_n 0, 1) := by decide +kernel
theorem dX8_drawn_57 : decode cX8_drawn 57 = .ok (.getfield 78, 3) := by decide +kernel
theorem dX8_drawn_60 : decode cX8_drawn 60 = .ok (.ifCond .le 25, 3) := by decide +kernel
theorem dX8_drawn_63 : decode cX8_drawn 63 = .ok (.aload_n 0, 1) := by decide +kernel
theorem dX8_drawn_64 : decode cX8_drawn 64 = .ok (.aload_n 0, 1) := by decide +kernel
theorem dX8_drawn_65 : decode cX8_drawn 65 = .ok (.getfield 47, 3) := by decide +kernel
theorem dX8_drawn_68 : decode cX8_drawn 68 = .ok (.iload_n 3, 1) := by decide +kernel
theorem dX8_drawn_69 : decode cX8_drawn 69 = .ok (.aload_n 0, 1) := by decide +kernel
theorem dX8_drawn_70 : decode cX8_drawn 70 = .ok (.getfield 78, 3) := by decide +kernel
theorem dX8_drawn_73 : decode cX8_drawn 73 = .ok (.irem, 1) := by decide +kernel
theorem dX8_drawn_74 : decode cX8_drawn 74 = .ok (.iload_n 3, 1) := by decide +kernel
theorem dX8_drawn_75 : decode cX8_drawn 75 = .ok (.bipush 8, 2) := by decide +kernel
theorem dX8_drawn_77 : decode cX8_drawn 77 = .ok (.idiv, 1) := by decide +kernel
theorem dX8_drawn_78 : decode cX8_drawn 78 = .ok (.bipush 32, 2) := by decide +kernel
theorem dX8_drawn_80 : decode cX8_drawn 80 = .ok (.irem, 1) := by decide +kernel
theorem dX8_drawn_81 : decode cX8_drawn 81 = .ok (.invokevirtual 217, 3) := by decide +kernel
theorem dX8_drawn_84 : decode cX8_drawn 84 = .ok (.pop, 1) := by decide +kernel
theorem dX8_drawn_85 : decode cX8_drawn 85 = .ok (.iinc 2 1, 3) := by decide +kernel
theorem dX8_drawn_88 : decode cX8_drawn 88 = .ok (.goto (-62), 3) := by decide +kernel
theorem dX8_drawn_91 : decode cX8_drawn 91 = .ok (.aload_n 0, 1) := by decide +kernel
theorem dX8_drawn_92 : decode cX8_drawn 92 = .ok (.getfield 47, 3) := by decide +kernel
theorem dX8_drawn_95 : decode cX8_drawn 95 = .ok (.invokestatic 247, 3) := by decide +kernel
theorem dX8_drawn_98 : decode cX8_drawn 98 = .ok (.aload_n 0, 1) := by decide +kernel
theorem dX8_drawn_99 : decode cX8_drawn 99 = .ok (.getfield 44, 3) := by decide +kernel
theorem dX8_drawn_102 : decode cX8_drawn 102 = .ok (.invokestatic 247, 3) := by decide +kernel
theorem dX8_drawn_105 : decode cX8_drawn 105 = .ok (.isub, 1) := by decide +kernel
theorem dX8_drawn_106 : decode cX8_drawn 106 = .ok (.ireturn, 1) := by decide +kernel
theorem dX8_keep_0 : decode cX8_keep 0 = .ok (.aload_n 0, 1) := by decide +kernel
theorem dX8_keep_1 : decode cX8_keep 1 = .ok (.iconst 0, 1) := by decide +kernel
theorem dX8_keep_2 : decode cX8_keep 2 = .ok (.putfield 75, 3) := by decide +kernel
theorem dX8_keep_5 : decode cX8_keep 5 = .ok (.iload_n 1, 1) := by decide +kernel
theorem dX8_keep_6 : decode cX8_keep 6 = .ok (.i2l, 1) := by decide +kernel
theorem dX8_keep_7 : decode cX8_keep 7 = .ok (.lconst 0, 1) := by decide +kernel
theorem dX8_keep_8 : decode cX8_keep 8 = .ok (.lconst 1, 1) := by decide +kernel
theorem dX8_keep_9 : decode cX8_keep 9 = .ok (.invokestatic 81, 3) := by decide +kernel
theorem dX8_keep_12 : decode cX8_keep 12 = .ok (.ifCond .ne 5, 3) := by decide +kernel
theorem dX8_keep_15 : decode cX8_keep 15 = .ok (.iconst (-1), 1) := by decide +kernel
theorem dX8_keep_16 : decode cX8_keep 16 = .ok (.ireturn, 1) := by decide +kernel
theorem dX8_keep_17 : decode cX8_keep 17 = .ok (.aload_n 0, 1) := by decide +kernel
theorem dX8_keep_18 : decode cX8_keep 18 = .ok (.getfield 56, 3) := by decide +kernel
theorem dX8_keep_21 : decode cX8_keep 21 = .ok (.iload_n 1, 1) := by decide +kernel
theorem dX8_keep_22 : decode cX8_keep 22 = .ok (.iconst 1, 1) := by decide +kernel
theorem dX8_keep_23 : decode cX8_keep 23 = .ok (.bastore, 1) := by decide +kernel
theorem dX8_keep_24 : decode cX8_keep 24 = .ok (.iconst 0, 1) := by decide +kernel
theorem dX8_keep_25 : decode cX8_keep 25 = .ok (.istore_n 2, 1) := by decide +kernel
theorem dX8_keep_26 : decode cX8_keep 26 = .ok (.iload_n 2, 1) := by decide +kernel
theorem dX8_keep_27 : decode cX8_keep 27 = .ok (.bipush 121, 2) := by decide +kernel
theorem dX8_keep_29 : decode cX8_keep 29 = .ok (.if_icmp .ge 26, 3) := by decide +kernel
theorem dX8_keep_32 : decode cX8_keep 32 = .ok (.aload_n 0, 1) := by decide +kernel
theorem dX8_keep_33 : decode cX8_keep 33 = .ok (.getfield 53, 3) := by decide +kernel
theorem dX8_keep_36 : decode cX8_keep 36 = .ok (.bipush 121, 2) := by decide +kernel
theorem dX8_keep_38 : decode cX8_keep 38 = .ok (.iload_n 1, 1) := by decide +kernel
theorem dX8_keep_39 : decode cX8_keep 39 = .ok (.imul, 1) := by decide +kernel
theorem dX8_keep_40 : decode cX8_keep 40 = .ok (.iload_n 2, 1) := by decide +kernel
theorem dX8_keep_41 : decode cX8_keep 41 = .ok (.iadd, 1) := by decide +kernel
theorem dX8_keep_42 : decode cX8_keep 42 = .ok (.aload_n 0, 1) := by decide +kernel
theorem dX8_keep_43 : decode cX8_keep 43 = .ok (.getfield 44, 3) := by decide +kernel
theorem dX8_keep_46 : decode cX8_keep 46 = .ok (.iload_n 2, 1) := by decide +kernel
theorem dX8_keep_47 : decode cX8_keep 47 = .ok (.iaload, 1) := by decide +kernel
theorem dX8_keep_48 : decode cX8_keep 48 = .ok (.iastore, 1) := by decide +kernel
theorem dX8_keep_49 : decode cX8_keep 49 = .ok (.iinc 2 1, 3) := by decide +kernel
theorem dX8_keep_52 : decode cX8_keep 52 = .ok (.goto (-26), 3) := by decide +kernel
theorem dX8_keep_55 : decode cX8_keep 55 = .ok (.aload_n 0, 1) := by decide +kernel
theorem dX8_keep_56 : decode cX8_keep 56 = .ok (.getfield 78, 3) := by decide +kernel
theorem dX8_keep_59 : decode cX8_keep 59 = .ok (.ireturn, 1) := by decide +kernel
theorem dX8_again_0 : decode cX8_again 0 = .ok (.aload_n 0, 1) := by decide +kernel
theorem dX8_again_1 : decode cX8_again 1 = .ok (.iconst 0, 1) := by decide +kernel
theorem dX8_again_2 : decode cX8_again 2 = .ok (.putfield 75, 3) := by decide +kernel
theorem dX8_again_5 : decode cX8_again 5 = .ok (.iload_n 1, 1) := by decide +kernel
theorem dX8_again_6 : decode cX8_again 6 = .ok (.i2l, 1) := by decide +kernel
theorem dX8_again_7 : decode cX8_again 7 = .ok (.lconst 0, 1) := by decide +kernel
theorem dX8_again_8 : decode cX8_again 8 = .ok (.lconst 1, 1) := by decide +kernel
theorem dX8_again_9 : decode cX8_again 9 = .ok (.invokestatic 81, 3) := by decide +kernel
theorem dX8_again_12 : decode cX8_again 12 = .ok (.ifCond .ne 5, 3) := by decide +kernel
theorem dX8_again_15 : decode cX8_again 15 = .ok (.iconst (-1), 1) := by decide +kernel
theorem dX8_again_16 : decode cX8_again 16 = .ok (.ireturn, 1) := by decide +kernel
theorem dX8_again_17 : decode cX8_again 17 = .ok (.aload_n 0, 1) := by decide +kernel
theorem dX8_again_18 : decode cX8_again 18 = .ok (.getfield 56, 3) := by decide +kernel
theorem dX8_again_21 : decode cX8_again 21 = .ok (.iload_n 1, 1) := by decide +kernel
theorem dX8_again_22 : decode cX8_again 22 = .ok (.baload, 1) := by decide +kernel
theorem dX8_again_23 : decode cX8_again 23 = .ok (.ifCond .ne 6, 3) := by decide +kernel
theorem dX8_again_26 : decode cX8_again 26 = .ok (.bipush (-3), 2) := by decide +kernel
theorem dX8_again_28 : decode cX8_again 28 = .ok (.ireturn, 1) := by decide +kernel
theorem dX8_again_29 : decode cX8_again 29 = .ok (.iconst 0, 1) := by decide +kernel
theorem dX8_again_30 : decode cX8_again 30 = .ok (.istore_n 2, 1) := by decide +kernel
theorem dX8_again_31 : decode cX8_again 31 = .ok (.iload_n 2, 1) := by decide +kernel
theorem dX8_again_32 : decode cX8_again 32 = .ok (.bipush 121, 2) := by decide +kernel
theorem dX8_again_34 : decode cX8_again 34 = .ok (.if_icmp .ge 26, 3) := by decide +kernel
theorem dX8_again_37 : decode cX8_again 37 = .ok (.aload_n 0, 1) := by decide +kernel
theorem dX8_again_38 : decode cX8_again 38 = .ok (.getfield 44, 3) := by decide +kernel
theorem dX8_again_41 : decode cX8_again 41 = .ok (.iload_n 2, 1) := by decide +kernel
theorem dX8_again_42 : decode cX8_again 42 = .ok (.aload_n 0, 1) := by decide +kernel
theorem dX8_again_43 : decode cX8_again 43 = .ok (.getfield 53, 3) := by decide +kernel
theorem dX8_again_46 : decode cX8_again 46 = .ok (.bipush 121, 2) := by decide +kernel
theorem dX8_again_48 : decode cX8_again 48 = .ok (.iload_n 1, 1) := by decide +kernel
theorem dX8_again_49 : decode cX8_again 49 = .ok (.imul, 1) := by decide +kernel
theorem dX8_again_50 : decode cX8_again 50 = .ok (.iload_n 2, 1) := by decide +kernel
theorem dX8_again_51 : decode cX8_again 51 = .ok (.iadd, 1) := by decide +kernel
theorem dX8_again_52 : decode cX8_again 52 = .ok (.iaload, 1) := by decide +kernel
theorem dX8_again_53 : decode cX8_again 53 = .ok (.iastore, 1) := by decide +kernel
theorem dX8_again_54 : decode cX8_again 54 = .ok (.iinc 2 1, 3) := by decide +kernel
theorem dX8_again_57 : decode cX8_again 57 = .ok (.goto (-26), 3) := by decide +kernel
theorem dX8_again_60 : decode cX8_again 60 = .ok (.aload_n 0, 1) := by decide +kernel
theorem dX8_again_61 : decode cX8_again 61 = .ok (.iconst 0, 1) := by decide +kernel
theorem dX8_again_62 : decode cX8_again 62 = .ok (.putfield 159, 3) := by decide +kernel
theorem dX8_again_65 : decode cX8_again 65 = .ok (.aload_n 0, 1) := by decide +kernel
theorem dX8_again_66 : decode cX8_again 66 = .ok (.getfield 78, 3) := by decide +kernel
theorem dX8_again_69 : decode cX8_again 69 = .ok (.ireturn, 1) := by decide +kernel
theorem dX8_onShelves_0 : decode cX8_onShelves 0 = .ok (.iconst 0, 1) := by decide +kernel
theorem dX8_onShelves_1 : decode cX8_onShelves 1 = .ok (.istore_n 1, 1) := by decide +kernel
theorem dX8_onShelves_2 : decode cX8_onShelves 2 = .ok (.iconst 0, 1) := by decide +kernel
theorem dX8_onShelves_3 : decode cX8_onShelves 3 = .ok (.istore_n 2, 1) := by decide +kernel
theorem dX8_onShelves_4 : decode cX8_onShelves 4 = .ok (.iload_n 2, 1) := by decide +kernel
theorem dX8_onShelves_5 : decode cX8_onShelves 5 = .ok (.aload_n 0, 1) := by decide +kernel
theorem dX8_onShelves_6 : decode cX8_onShelves 6 = .ok (.getfield 78, 3) := by decide +kernel
theorem dX8_onShelves_9 : decode cX8_onShelves 9 = .ok (.if_icmp .ge 24, 3) := by decide +kernel
theorem dX8_onShelves_12 : decode cX8_onShelves 12 = .ok (.iload_n 1, 1) := by decide +kernel
theorem dX8_onShelves_13 : decode cX8_onShelves 13 = .ok (.aload_n 0, 1) := by decide +kernel
theorem dX8_onShelves_14 : decode cX8_onShelves 14 = .ok (.getfield 44, 3) := by decide +kernel
theorem dX8_onShelves_17 : decode cX8_onShelves 17 = .ok (.bipush 29, 2) := by decide +kernel
theorem dX8_onShelves_19 : decode cX8_onShelves 19 = .ok (.iload_n 2, 1) := by decide +kernel
theorem dX8_onShelves_20 : decode cX8_onShelves 20 = .ok (.imul, 1) := by decide +kernel
theorem dX8_onShelves_21 : decode cX8_onShelves 21 = .ok (.bipush 9, 2) := by decide +kernel
theorem dX8_onShelves_23 : decode cX8_onShelves 23 = .ok (.iadd, 1) := by decide +kernel
theorem dX8_onShelves_24 : decode cX8_onShelves 24 = .ok (.iaload, 1) := by decide +kernel
theorem dX8_onShelves_25 : decode cX8_onShelves 25 = .ok (.iadd, 1) := by decide +kernel
theorem dX8_onShelves_26 : decode cX8_onShelves 26 = .ok (.istore_n 1, 1) := by decide +kernel
theorem dX8_onShelves_27 : decode cX8_onShelves 27 = .ok (.iinc 2 1, 3) := by decide +kernel
theorem dX8_onShelves_30 : decode cX8_onShelves 30 = .ok (.goto (-26), 3) := by decide +kernel
theorem dX8_onShelves_33 : decode cX8_onShelves 33 = .ok (.iload_n 1, 1) := by decide +kernel
theorem dX8_onShelves_34 : decode cX8_onShelves 34 = .ok (.ireturn, 1) := by decide +kernel
theorem dX8_count_0 : decode cX8_count 0 = .ok (.aload_n 0, 1) := by decide +kernel
theorem dX8_count_1 : decode cX8_count 1 = .ok (.iconst 0, 1) := by decide +kernel
theorem dX8_count_2 : decode cX8_count 2 = .ok (.putfield 75, 3) := by decide +kernel
theorem dX8_count_5 : decode cX8_count 5 = .ok (.iload_n 1, 1) := by decide +kernel
theorem dX8_count_6 : decode cX8_count 6 = .ok (.tableswitch 127 0 12 #[66, 71, 76, 81, 86, 91, 99, 99, 99, 99, 112, 117, 122], 66) := by decide +kernel
theorem dX8_count_72 : decode cX8_count 72 = .ok (.aload_n 0, 1) := by decide +kernel
theorem dX8_count_73 : decode cX8_count 73 = .ok (.getfield 89, 3) := by decide +kernel
theorem dX8_count_76 : decode cX8_count 76 = .ok (.ireturn, 1) := by decide +kernel
theorem dX8_count_77 : decode cX8_count 77 = .ok (.aload_n 0, 1) := by decide +kernel
theorem dX8_count_78 : decode cX8_count 78 = .ok (.getfield 78, 3) := by decide +kernel
theorem dX8_count_81 : decode cX8_count 81 = .ok (.ireturn, 1) := by decide +kernel
theorem dX8_count_82 : decode cX8_count 82 = .ok (.aload_n 0, 1) := by decide +kernel
theorem dX8_count_83 : decode cX8_count 83 = .ok (.getfield 20, 3) := by decide +kernel
theorem dX8_count_86 : decode cX8_count 86 = .ok (.ireturn, 1) := by decide +kernel
theorem dX8_count_87 : decode cX8_count 87 = .ok (.aload_n 0, 1) := by decide +kernel
theorem dX8_count_88 : decode cX8_count 88 = .ok (.getfield 13, 3) := by decide +kernel
theorem dX8_count_91 : decode cX8_count 91 = .ok (.ireturn, 1) := by decide +kernel
theorem dX8_count_92 : decode cX8_count 92 = .ok (.aload_n 0, 1) := by decide +kernel
theorem dX8_count_93 : decode cX8_count 93 = .ok (.getfield 17, 3) := by decide +kernel
theorem dX8_count_96 : decode cX8_count 96 = .ok (.ireturn, 1) := by decide +kernel
theorem dX8_count_97 : decode cX8_count 97 = .ok (.aload_n 0, 1) := by decide +kernel
theorem dX8_count_98 : decode cX8_count 98 = .ok (.getfield 44, 3) := by decide +kernel
theorem dX8_count_101 : decode cX8_count 101 = .ok (.bipush 116, 2) := by decide +kernel
theorem dX8_count_103 : decode cX8_count 103 = .ok (.iaload, 1) := by decide +kernel
theorem dX8_count_104 : decode cX8_count 104 = .ok (.ireturn, 1) := by decide +kernel
theorem dX8_count_105 : decode cX8_count 105 = .ok (.aload_n 0, 1) := by decide +kernel
theorem dX8_count_106 : decode cX8_count 106 = .ok (.getfield 44, 3) := by decide +kernel
theorem dX8_count_109 : decode cX8_count 109 = .ok (.bipush 117, 2) := by decide +kernel
theorem dX8_count_111 : decode cX8_count 111 = .ok (.iload_n 1, 1) := by decide +kernel
theorem dX8_count_112 : decode cX8_count 112 = .ok (.iadd, 1) := by decide +kernel
theorem dX8_count_113 : decode cX8_count 113 = .ok (.bipush 6, 2) := by decide +kernel
theorem dX8_count_115 : decode cX8_count 115 = .ok (.isub, 1) := by decide +kernel
theorem dX8_count_116 : decode cX8_count 116 = .ok (.iaload, 1) := by decide +kernel
theorem dX8_count_117 : decode cX8_count 117 = .ok (.ireturn, 1) := by decide +kernel
theorem dX8_count_118 : decode cX8_count 118 = .ok (.aload_n 0, 1) := by decide +kernel
theorem dX8_count_119 : decode cX8_count 119 = .ok (.invokevirtual 309, 3) := by decide +kernel
theorem dX8_count_122 : decode cX8_count 122 = .ok (.ireturn, 1) := by decide +kernel
theorem dX8_count_123 : decode cX8_count 123 = .ok (.aload_n 0, 1) := by decide +kernel
theorem dX8_count_124 : decode cX8_count 124 = .ok (.getfield 159, 3) := by decide +kernel
theorem dX8_count_127 : decode cX8_count 127 = .ok (.ireturn, 1) := by decide +kernel
theorem dX8_count_128 : decode cX8_count 128 = .ok (.aload_n 0, 1) := by decide +kernel
theorem dX8_count_129 : decode cX8_count 129 = .ok (.getfield 275, 3) := by decide +kernel
theorem dX8_count_132 : decode cX8_count 132 = .ok (.ireturn, 1) := by decide +kernel
theorem dX8_count_133 : decode cX8_count 133 = .ok (.bipush (-2), 2) := by decide +kernel
theorem dX8_count_135 : decode cX8_count 135 = .ok (.ireturn, 1) := by decide +kernel
theorem dJxf58ca_isNaN_12338_0 : decode cJxf58ca_isNaN_12338 0 = .ok (.fload_n 0, 1) := by decide +kernel
theorem dJxf58ca_isNaN_12338_1 : decode cJxf58ca_isNaN_12338 1 = .ok (.fload_n 0, 1) := by decide +kernel
theorem dJxf58ca_isNaN_12338_2 : decode cJxf58ca_isNaN_12338 2 = .ok (.fcmp .l, 1) := by decide +kernel
theorem dJxf58ca_isNaN_12338_3 : decode cJxf58ca_isNaN_12338 3 = .ok (.ifCond .eq 7, 3) := by decide +kernel
theorem dJxf58ca_isNaN_12338_6 : decode cJxf58ca_isNaN_12338 6 = .ok (.iconst 1, 1) := by decide +kernel
theorem dJxf58ca_isNaN_12338_7 : decode cJxf58ca_isNaN_12338 7 = .ok (.goto 4, 3) := by decide +kernel
theorem dJxf58ca_isNaN_12338_10 : decode cJxf58ca_isNaN_12338 10 = .ok (.iconst 0, 1) := by decide +kernel
theorem dJxf58ca_isNaN_12338_11 : decode cJxf58ca_isNaN_12338 11 = .ok (.ireturn, 1) := by decide +kernel
theorem dJxf58ca_floatToIntBits_5c35a_0 : decode cJxf58ca_floatToIntBits_5c35a 0 = .ok (.fload_n 0, 1) := by decide +kernel
theorem dJxf58ca_floatToIntBits_5c35a_1 : decode cJxf58ca_floatToIntBits_5c35a 1 = .ok (.invokestatic 59, 3) := by decide +kernel
theorem dJxf58ca_floatToIntBits_5c35a_4 : decode cJxf58ca_floatToIntBits_5c35a 4 = .ok (.ifCond .ne 8, 3) := by decide +kernel
theorem dJxf58ca_floatToIntBits_5c35a_7 : decode cJxf58ca_floatToIntBits_5c35a 7 = .ok (.fload_n 0, 1) := by decide +kernel
theorem dJxf58ca_floatToIntBits_5c35a_8 : decode cJxf58ca_floatToIntBits_5c35a 8 = .ok (.invokestatic 74, 3) := by decide +kernel
theorem dJxf58ca_floatToIntBits_5c35a_11 : decode cJxf58ca_floatToIntBits_5c35a 11 = .ok (.ireturn, 1) := by decide +kernel
theorem dJxf58ca_floatToIntBits_5c35a_12 : decode cJxf58ca_floatToIntBits_5c35a 12 = .ok (.ldc 77, 2) := by decide +kernel
theorem dJxf58ca_floatToIntBits_5c35a_14 : decode cJxf58ca_floatToIntBits_5c35a 14 = .ok (.ireturn, 1) := by decide +kernel
theorem dJ6_bitCount_0f7a4_0 : decode cJ6_bitCount_0f7a4 0 = .ok (.iload_n 0, 1) := by decide +kernel
theorem dJ6_bitCount_0f7a4_1 : decode cJ6_bitCount_0f7a4 1 = .ok (.iload_n 0, 1) := by decide +kernel
theorem dJ6_bitCount_0f7a4_2 : decode cJ6_bitCount_0f7a4 2 = .ok (.iconst 1, 1) := by decide +kernel
theorem dJ6_bitCount_0f7a4_3 : decode cJ6_bitCount_0f7a4 3 = .ok (.iushr, 1) := by decide +kernel
theorem dJ6_bitCount_0f7a4_4 : decode cJ6_bitCount_0f7a4 4 = .ok (.ldc_w 265, 3) := by decide +kernel
theorem dJ6_bitCount_0f7a4_7 : decode cJ6_bitCount_0f7a4 7 = .ok (.iand, 1) := by decide +kernel
theorem dJ6_bitCount_0f7a4_8 : decode cJ6_bitCount_0f7a4 8 = .ok (.isub, 1) := by decide +kernel
theorem dJ6_bitCount_0f7a4_9 : decode cJ6_bitCount_0f7a4 9 = .ok (.istore_n 0, 1) := by decide +kernel
theorem dJ6_bitCount_0f7a4_10 : decode cJ6_bitCount_0f7a4 10 = .ok (.iload_n 0, 1) := by decide +kernel
theorem dJ6_bitCount_0f7a4_11 : decode cJ6_bitCount_0f7a4 11 = .ok (.ldc_w 266, 3) := by decide +kernel
theorem dJ6_bitCount_0f7a4_14 : decode cJ6_bitCount_0f7a4 14 = .ok (.iand, 1) := by decide +kernel
theorem dJ6_bitCount_0f7a4_15 : decode cJ6_bitCount_0f7a4 15 = .ok (.iload_n 0, 1) := by decide +kernel
theorem dJ6_bitCount_0f7a4_16 : decode cJ6_bitCount_0f7a4 16 = .ok (.iconst 2, 1) := by decide +kernel
theorem dJ6_bitCount_0f7a4_17 : decode cJ6_bitCount_0f7a4 17 = .ok (.iushr, 1) := by decide +kernel
theorem dJ6_bitCount_0f7a4_18 : decode cJ6_bitCount_0f7a4 18 = .ok (.ldc_w 266, 3) := by decide +kernel
theorem dJ6_bitCount_0f7a4_21 : decode cJ6_bitCount_0f7a4 21 = .ok (.iand, 1) := by decide +kernel
theorem dJ6_bitCount_0f7a4_22 : decode cJ6_bitCount_0f7a4 22 = .ok (.iadd, 1) := by decide +kernel
theorem dJ6_bitCount_0f7a4_23 : decode cJ6_bitCount_0f7a4 23 = .ok (.istore_n 0, 1) := by decide +kernel
theorem dJ6_bitCount_0f7a4_24 : decode cJ6_bitCount_0f7a4 24 = .ok (.iload_n 0, 1) := by decide +kernel
theorem dJ6_bitCount_0f7a4_25 : decode cJ6_bitCount_0f7a4 25 = .ok (.iload_n 0, 1) := by decide +kernel
theorem dJ6_bitCount_0f7a4_26 : decode cJ6_bitCount_0f7a4 26 = .ok (.iconst 4, 1) := by decide +kernel
theorem dJ6_bitCount_0f7a4_27 : decode cJ6_bitCount_0f7a4 27 = .ok (.iushr, 1) := by decide +kernel
theorem dJ6_bitCount_0f7a4_28 : decode cJ6_bitCount_0f7a4 28 = .ok (.iadd, 1) := by decide +kernel
theorem dJ6_bitCount_0f7a4_29 : decode cJ6_bitCount_0f7a4 29 = .ok (.ldc_w 267, 3) := by decide +kernel
theorem dJ6_bitCount_0f7a4_32 : decode cJ6_bitCount_0f7a4 32 = .ok (.iand, 1) := by decide +kernel
theorem dJ6_bitCount_0f7a4_33 : decode cJ6_bitCount_0f7a4 33 = .ok (.istore_n 0, 1) := by decide +kernel
theorem dJ6_bitCount_0f7a4_34 : decode cJ6_bitCount_0f7a4 34 = .ok (.iload_n 0, 1) := by decide +kernel
theorem dJ6_bitCount_0f7a4_35 : decode cJ6_bitCount_0f7a4 35 = .ok (.iload_n 0, 1) := by decide +kernel
theorem dJ6_bitCount_0f7a4_36 : decode cJ6_bitCount_0f7a4 36 = .ok (.bipush 8, 2) := by decide +kernel
theorem dJ6_bitCount_0f7a4_38 : decode cJ6_bitCount_0f7a4 38 = .ok (.iushr, 1) := by decide +kernel
theorem dJ6_bitCount_0f7a4_39 : decode cJ6_bitCount_0f7a4 39 = .ok (.iadd, 1) := by decide +kernel
theorem dJ6_bitCount_0f7a4_40 : decode cJ6_bitCount_0f7a4 40 = .ok (.istore_n 0, 1) := by decide +kernel
theorem dJ6_bitCount_0f7a4_41 : decode cJ6_bitCount_0f7a4 41 = .ok (.iload_n 0, 1) := by decide +kernel
theorem dJ6_bitCount_0f7a4_42 : decode cJ6_bitCount_0f7a4 42 = .ok (.iload_n 0, 1) := by decide +kernel
theorem dJ6_bitCount_0f7a4_43 : decode cJ6_bitCount_0f7a4 43 = .ok (.bipush 16, 2) := by decide +kernel
theorem dJ6_bitCount_0f7a4_45 : decode cJ6_bitCount_0f7a4 45 = .ok (.iushr, 1) := by decide +kernel
theorem dJ6_bitCount_0f7a4_46 : decode cJ6_bitCount_0f7a4 46 = .ok (.iadd, 1) := by decide +kernel
theorem dJ6_bitCount_0f7a4_47 : decode cJ6_bitCount_0f7a4 47 = .ok (.istore_n 0, 1) := by decide +kernel
theorem dJ6_bitCount_0f7a4_48 : decode cJ6_bitCount_0f7a4 48 = .ok (.iload_n 0, 1) := by decide +kernel
theorem dJ6_bitCount_0f7a4_49 : decode cJ6_bitCount_0f7a4 49 = .ok (.bipush 63, 2) := by decide +kernel
theorem dJ6_bitCount_0f7a4_51 : decode cJ6_bitCount_0f7a4 51 = .ok (.iand, 1) := by decide +kernel
theorem dJ6_bitCount_0f7a4_52 : decode cJ6_bitCount_0f7a4 52 = .ok (.ireturn, 1) := by decide +kernel
theorem dJ9_min_7cf53_0 : decode cJ9_min_7cf53 0 = .ok (.iload_n 0, 1) := by decide +kernel
theorem dJ9_min_7cf53_1 : decode cJ9_min_7cf53 1 = .ok (.iload_n 1, 1) := by decide +kernel
theorem dJ9_min_7cf53_2 : decode cJ9_min_7cf53 2 = .ok (.if_icmp .gt 7, 3) := by decide +kernel
theorem dJ9_min_7cf53_5 : decode cJ9_min_7cf53 5 = .ok (.iload_n 0, 1) := by decide +kernel
theorem dJ9_min_7cf53_6 : decode cJ9_min_7cf53 6 = .ok (.goto 4, 3) := by decide +kernel
theorem dJ9_min_7cf53_9 : decode cJ9_min_7cf53 9 = .ok (.iload_n 1, 1) := by decide +kernel
theorem dJ9_min_7cf53_10 : decode cJ9_min_7cf53 10 = .ok (.ireturn, 1) := by decide +kernel
theorem dL_law_0 : decode cL_law 0 = .ok (.new 7, 3) := by decide +kernel
theorem dL_law_3 : decode cL_law 3 = .ok (.dup, 1) := by decide +kernel
theorem dL_law_4 : decode cL_law 4 = .ok (.invokespecial 9, 3) := by decide +kernel
theorem dL_law_7 : decode cL_law 7 = .ok (.astore_n 1, 1) := by decide +kernel
theorem dL_law_8 : decode cL_law 8 = .ok (.new 10, 3) := by decide +kernel
theorem dL_law_11 : decode cL_law 11 = .ok (.dup, 1) := by decide +kernel
theorem dL_law_12 : decode cL_law 12 = .ok (.invokespecial 12, 3) := by decide +kernel
theorem dL_law_15 : decode cL_law 15 = .ok (.astore_n 2, 1) := by decide +kernel
theorem dL_law_16 : decode cL_law 16 = .ok (.iconst 0, 1) := by decide +kernel
theorem dL_law_17 : decode cL_law 17 = .ok (.istore_n 3, 1) := by decide +kernel
theorem dL_law_18 : decode cL_law 18 = .ok (.iload_n 3, 1) := by decide +kernel
theorem dL_law_19 : decode cL_law 19 = .ok (.aload_n 0, 1) := by decide +kernel
theorem dL_law_20 : decode cL_law 20 = .ok (.arraylength, 1) := by decide +kernel
theorem dL_law_21 : decode cL_law 21 = .ok (.iconst 5, 1) := by decide +kernel
theorem dL_law_22 : decode cL_law 22 = .ok (.isub, 1) := by decide +kernel
theorem dL_law_23 : decode cL_law 23 = .ok (.if_icmp .gt 1110, 3) := by decide +kernel
theorem dL_law_26 : decode cL_law 26 = .ok (.aload_n 0, 1) := by decide +kernel
theorem dL_law_27 : decode cL_law 27 = .ok (.iload_n 3, 1) := by decide +kernel
theorem dL_law_28 : decode cL_law 28 = .ok (.iaload, 1) := by decide +kernel
theorem dL_law_29 : decode cL_law 29 = .ok (.bipush 31, 2) := by decide +kernel
theorem dL_law_31 : decode cL_law 31 = .ok (.iand, 1) := by decide +kernel
theorem dL_law_32 : decode cL_law 32 = .ok (.tableswitch 1095 0 29 #[136, 159, 172, 185, 198, 231, 264, 297, 340, 399, 432, 465, 488, 521, 544, 557, 580, 613, 656, 699, 762, 805, 818, 831, 880, 949, 1003, 1026, 1049, 1072], 136) := by decide +kernel
theorem dL_law_168 : decode cL_law 168 = .ok (.aload_n 1, 1) := by decide +kernel
theorem dL_law_169 : decode cL_law 169 = .ok (.aload_n 0, 1) := by decide +kernel
theorem dL_law_170 : decode cL_law 170 = .ok (.iload_n 3, 1) := by decide +kernel
theorem dL_law_171 : decode cL_law 171 = .ok (.iconst 1, 1) := by decide +kernel
theorem dL_law_172 : decode cL_law 172 = .ok (.iadd, 1) := by decide +kernel
theorem dL_law_173 : decode cL_law 173 = .ok (.iaload, 1) := by decide +kernel
theorem dL_law_174 : decode cL_law 174 = .ok (.invokevirtual 13, 3) := by decide +kernel
theorem dL_law_177 : decode cL_law 177 = .ok (.aload_n 2, 1) := by decide +kernel
theorem dL_law_178 : decode cL_law 178 = .ok (.aload_n 0, 1) := by decide +kernel
theorem dL_law_179 : decode cL_law 179 = .ok (.iload_n 3, 1) := by decide +kernel
theorem dL_law_180 : decode cL_law 180 = .ok (.iconst 1, 1) := by decide +kernel
theorem dL_law_181 : decode cL_law 181 = .ok (.iadd, 1) := by decide +kernel
theorem dL_law_182 : decode cL_law 182 = .ok (.iaload, 1) := by decide +kernel
theorem dL_law_183 : decode cL_law 183 = .ok (.invokevirtual 17, 3) := by decide +kernel
theorem dL_law_186 : decode cL_law 186 = .ok (.if_icmp .eq 941, 3) := by decide +kernel
theorem dL_law_189 : decode cL_law 189 = .ok (.iconst 0, 1) := by decide +kernel
theorem dL_law_190 : decode cL_law 190 = .ok (.ireturn, 1) := by decide +kernel
theorem dL_law_191 : decode cL_law 191 = .ok (.aload_n 1, 1) := by decide +kernel
theorem dL_law_192 : decode cL_law 192 = .ok (.invokevirtual 18, 3) := by decide +kernel
theorem dL_law_195 : decode cL_law 195 = .ok (.aload_n 2, 1) := by decide +kernel
theorem dL_law_196 : decode cL_law 196 = .ok (.invokevirtual 22, 3) := by decide +kernel
theorem dL_law_199 : decode cL_law 199 = .ok (.if_icmp .eq 928, 3) := by decide +kernel
theorem dL_law_202 : decode cL_law 202 = .ok (.iconst 0, 1) := by decide +kernel
theorem dL_law_203 : decode cL_law 203 = .ok (.ireturn, 1) := by decide +kernel
theorem dL_law_204 : decode cL_law 204 = .ok (.aload_n 1, 1) := by decide +kernel
theorem dL_law_205 : decode cL_law 205 = .ok (.invokevirtual 23, 3) := by decide +kernel
theorem dL_law_208 : decode cL_law 208 = .ok (.aload_n 2, 1) := by decide +kernel
theorem dL_law_209 : decode cL_law 209 = .ok (.invokevirtual 26, 3) := by decide +kernel
theorem dL_law_212 : decode cL_law 212 = .ok (.if_icmp .eq 915, 3) := by decide +kernel
theorem dL_law_215 : decode cL_law 215 = .ok (.iconst 0, 1) := by decide +kernel
theorem dL_law_216 : decode cL_law 216 = .ok (.ireturn, 1) := by decide +kernel
theorem dL_law_217 : decode cL_law 217 = .ok (.aload_n 1, 1) := by decide +kernel
theorem dL_law_218 : decode cL_law 218 = .ok (.invokevirtual 27, 3) := by decide +kernel
theorem dL_law_221 : decode cL_law 221 = .ok (.aload_n 2, 1) := by decide +kernel
theorem dL_law_222 : decode cL_law 222 = .ok (.invokevirtual 30, 3) := by decide +kernel
theorem dL_law_225 : decode cL_law 225 = .ok (.if_icmp .eq 902, 3) := by decide +kernel
theorem dL_law_228 : decode cL_law 228 = .ok (.iconst 0, 1) := by decide +kernel
theorem dL_law_229 : decode cL_law 229 = .ok (.ireturn, 1) := by decide +kernel
theorem dL_law_230 : decode cL_law 230 = .ok (.aload_n 1, 1) := by decide +kernel
theorem dL_law_231 : decode cL_law 231 = .ok (.aload_n 0, 1) := by decide +kernel
theorem dL_law_232 : decode cL_law 232 = .ok (.iload_n 3, 1) := by decide +kernel
theorem dL_law_233 : decode cL_law 233 = .ok (.iconst 1, 1) := by decide +kernel
theorem dL_law_234 : decode cL_law 234 = .ok (.iadd, 1) := by decide +kernel
theorem dL_law_235 : decode cL_law 235 = .ok (.iaload, 1) := by decide +kernel
theorem dL_law_236 : decode cL_law 236 = .ok (.aload_n 0, 1) := by decide +kernel
theorem dL_law_237 : decode cL_law 237 = .ok (.iload_n 3, 1) := by decide +kernel
theorem dL_law_238 : decode cL_law 238 = .ok (.iconst 2, 1) := by decide +kernel
theorem dL_law_239 : decode cL_law 239 = .ok (.iadd, 1) := by decide +kernel
theorem dL_law_240 : decode cL_law 240 = .ok (.iaload, 1) := by decide +kernel
theorem dL_law_241 : decode cL_law 241 = .ok (.invokevirtual 31, 3) := by decide +kernel
theorem dL_law_244 : decode cL_law 244 = .ok (.aload_n 2, 1) := by decide +kernel
theorem dL_law_245 : decode cL_law 245 = .ok (.aload_n 0, 1) := by decide +kernel
theorem dL_law_246 : decode cL_law 246 = .ok (.iload_n 3, 1) := by decide +kernel
theorem dL_law_247 : decode cL_law 247 = .ok (.iconst 1, 1) := by decide +kernel
theorem dL_law_248 : decode cL_law 248 = .ok (.iadd, 1) := by decide +kernel
theorem dL_law_249 : decode cL_law 249 = .ok (.iaload, 1) := by decide +kernel
theorem dL_law_250 : decode cL_law 250 = .ok (.aload_n 0, 1) := by decide +kernel
theorem dL_law_251 : decode cL_law 251 = .ok (.iload_n 3, 1) := by decide +kernel
theorem dL_law_252 : decode cL_law 252 = .ok (.iconst 2, 1) := by decide +kernel
theorem dL_law_253 : decode cL_law 253 = .ok (.iadd, 1) := by decide +kernel
theorem dL_law_254 : decode cL_law 254 = .ok (.iaload, 1) := by decide +kernel
theorem dL_law_255 : decode cL_law 255 = .ok (.invokevirtual 35, 3) := by decide +kernel
theorem dL_law_258 : decode cL_law 258 = .ok (.if_icmp .eq 869, 3) := by decide +kernel
theorem dL_law_261 : decode cL_law 261 = .ok (.iconst 0, 1) := by decide +kernel
theorem dL_law_262 : decode cL_law 262 = .ok (.ireturn, 1) := by decide +kernel
theorem dL_law_263 : decode cL_law 263 = .ok (.aload_n 1, 1) := by decide +kernel
theorem dL_law_264 : decode cL_law 264 = .ok (.aload_n 0, 1) := by decide +kernel
theorem dL_law_265 : decode cL_law 265 = .ok (.iload_n 3, 1) := by decide +kernel
theorem dL_law_266 : decode cL_law 266 = .ok (.iconst 1, 1) := by decide +kernel
theorem dL_law_267 : decode cL_law 267 = .ok (.iadd, 1) := by decide +kernel
theorem dL_law_268 : decode cL_law 268 = .ok (.iaload, 1) := by decide +kernel
theorem dL_law_269 : decode cL_law 269 = .ok (.aload_n 0, 1) := by decide +kernel
theorem dL_law_270 : decode cL_law 270 = .ok (.iload_n 3, 1) := by decide +kernel
theorem dL_law_271 : decode cL_law 271 = .ok (.iconst 2, 1) := by decide +kernel
theorem dL_law_272 : decode cL_law 272 = .ok (.iadd, 1) := by decide +kernel
theorem dL_law_273 : decode cL_law 273 = .ok (.iaload, 1) := by decide +kernel
theorem dL_law_274 : decode cL_law 274 = .ok (.invokevirtual 36, 3) := by decide +kernel
theorem dL_law_277 : decode cL_law 277 = .ok (.aload_n 2, 1) := by decide +kernel
theorem dL_law_278 : decode cL_law 278 = .ok (.aload_n 0, 1) := by decide +kernel
theorem dL_law_279 : decode cL_law 279 = .ok (.iload_n 3, 1) := by decide +kernel
theorem dL_law_280 : decode cL_law 280 = .ok (.iconst 1, 1) := by decide +kernel
theorem dL_law_281 : decode cL_law 281 = .ok (.iadd, 1) := by decide +kernel
theorem dL_law_282 : decode cL_law 282 = .ok (.iaload, 1) := by decide +kernel
theorem dL_law_283 : decode cL_law 283 = .ok (.aload_n 0, 1) := by decide +kernel
theorem dL_law_284 : decode cL_law 284 = .ok (.iload_n 3, 1) := by decide +kernel
theorem dL_law_285 : decode cL_law 285 = .ok (.iconst 2, 1) := by decide +kernel
theorem dL_law_286 : decode cL_law 286 = .ok (.iadd, 1) := by decide +kernel
theorem dL_law_287 : decode cL_law 287 = .ok (.iaload, 1) := by decide +kernel
theorem dL_law_288 : decode cL_law 288 = .ok (.invokevirtual 39, 3) := by decide +kernel
theorem dL_law_291 : decode cL_law 291 = .ok (.if_icmp .eq 836, 3) := by decide +kernel
theorem dL_law_294 : decode cL_law 294 = .ok (.iconst 0, 1) := by decide +kernel
theorem dL_law_295 : decode cL_law 295 = .ok (.ireturn, 1) := by decide +kernel
theorem dL_law_296 : decode cL_law 296 = .ok (.aload_n 1, 1) := by decide +kernel
theorem dL_law_297 : decode cL_law 297 = .ok (.aload_n 0, 1) := by decide +kernel
theorem dL_law_298 : decode cL_law 298 = .ok (.iload_n 3, 1) := by decide +kernel
theorem dL_law_299 : decode cL_law 299 = .ok (.iconst 1, 1) := by decide +kernel
theorem dL_law_300 : decode cL_law 300 = .ok (.iadd, 1) := by decide +kernel
theorem dL_law_301 : decode cL_law 301 = .ok (.iaload, 1) := by decide +kernel
theorem dL_law_302 : decode cL_law 302 = .ok (.aload_n 0, 1) := by decide +kernel
theorem dL_law_303 : decode cL_law 303 = .ok (.iload_n 3, 1) := by decide +kernel
theorem dL_law_304 : decode cL_law 304 = .ok (.iconst 2, 1) := by decide +kernel
theorem dL_law_305 : decode cL_law 305 = .ok (.iadd, 1) := by decide +kernel
theorem dL_law_306 : decode cL_law 306 = .ok (.iaload, 1) := by decide +kernel
theorem dL_law_307 : decode cL_law 307 = .ok (.invokevirtual 40, 3) := by decide +kernel
theorem dL_law_310 : decode cL_law 310 = .ok (.aload_n 2, 1) := by decide +kernel
theorem dL_law_311 : decode cL_law 311 = .ok (.aload_n 0, 1) := by decide +kernel
theorem dL_law_312 : decode cL_law 312 = .ok (.iload_n 3, 1) := by decide +kernel
theorem dL_law_313 : decode cL_law 313 = .ok (.iconst 1, 1) := by decide +kernel
theorem dL_law_314 : decode cL_law 314 = .ok (.iadd, 1) := by decide +kernel
theorem dL_law_315 : decode cL_law 315 = .ok (.iaload, 1) := by decide +kernel
theorem dL_law_316 : decode cL_law 316 = .ok (.aload_n 0, 1) := by decide +kernel
theorem dL_law_317 : decode cL_law 317 = .ok (.iload_n 3, 1) := by decide +kernel
theorem dL_law_318 : decode cL_law 318 = .ok (.iconst 2, 1) := by decide +kernel
theorem dL_law_319 : decode cL_law 319 = .ok (.iadd, 1) := by decide +kernel
theorem dL_law_320 : decode cL_law 320 = .ok (.iaload, 1) := by decide +kernel
theorem dL_law_321 : decode cL_law 321 = .ok (.invokevirtual 43, 3) := by decide +kernel
theorem dL_law_324 : decode cL_law 324 = .ok (.if_icmp .eq 803, 3) := by decide +kernel
theorem dL_law_327 : decode cL_law 327 = .ok (.iconst 0, 1) := by decide +kernel
theorem dL_law_328 : decode cL_law 328 = .ok (.ireturn, 1) := by decide +kernel
theorem dL_law_329 : decode cL_law 329 = .ok (.aload_n 1, 1) := by decide +kernel
theorem dL_law_330 : decode cL_law 330 = .ok (.aload_n 0, 1) := by decide +kernel
theorem dL_law_331 : decode cL_law 331 = .ok (.iload_n 3, 1) := by decide +kernel
theorem dL_law_332 : decode cL_law 332 = .ok (.iconst 1, 1) := by decide +kernel
theorem dL_law_333 : decode cL_law 333 = .ok (.iadd, 1) := by decide +kernel
theorem dL_law_334 : decode cL_law 334 = .ok (.iaload, 1) := by decide +kernel
theorem dL_law_335 : decode cL_law 335 = .ok (.aload_n 0, 1) := by decide +kernel
theorem dL_law_336 : decode cL_law 336 = .ok (.iload_n 3, 1) := by decide +kernel
theorem dL_law_337 : decode cL_law 337 = .ok (.iconst 2, 1) := by decide +kernel
theorem dL_law_338 : decode cL_law 338 = .ok (.iadd, 1) := by decide +kernel
theorem dL_law_339 : decode cL_law 339 = .ok (.iaload, 1) := by decide +kernel
theorem dL_law_340 : decode cL_law 340 = .ok (.aload_n 0, 1) := by decide +kernel
theorem dL_law_341 : decode cL_law 341 = .ok (.iload_n 3, 1) := by decide +kernel
theorem dL_law_342 : decode cL_law 342 = .ok (.iconst 3, 1) := by decide +kernel
theorem dL_law_343 : decode cL_law 343 = .ok (.iadd, 1) := by decide +kernel
theorem dL_law_344 : decode cL_law 344 = .ok (.iaload, 1) := by decide +kernel
theorem dL_law_345 : decode cL_law 345 = .ok (.invokevirtual 44, 3) := by decide +kernel
theorem dL_law_348 : decode cL_law 348 = .ok (.aload_n 2, 1) := by decide +kernel
theorem dL_law_349 : decode cL_law 349 = .ok (.aload_n 0, 1) := by decide +kernel
theorem dL_law_350 : decode cL_law 350 = .ok (.iload_n 3, 1) := by decide +kernel
theorem dL_law_351 : decode cL_law 351 = .ok (.iconst 1, 1) := by decide +kernel
theorem dL_law_352 : decode cL_law 352 = .ok (.iadd, 1) := by decide +kernel
theorem dL_law_353 : decode cL_law 353 = .ok (.iaload, 1) := by decide +kernel
theorem dL_law_354 : decode cL_law 354 = .ok (.aload_n 0, 1) := by decide +kernel
theorem dL_law_355 : decode cL_law 355 = .ok (.iload_n 3, 1) := by decide +kernel
theorem dL_law_356 : decode cL_law 356 = .ok (.iconst 2, 1) := by decide +kernel
theorem dL_law_357 : decode cL_law 357 = .ok (.iadd, 1) := by decide +kernel
theorem dL_law_358 : decode cL_law 358 = .ok (.iaload, 1) := by decide +kernel
theorem dL_law_359 : decode cL_law 359 = .ok (.aload_n 0, 1) := by decide +kernel
theorem dL_law_360 : decode cL_law 360 = .ok (.iload_n 3, 1) := by decide +kernel
theorem dL_law_361 : decode cL_law 361 = .ok (.iconst 3, 1) := by decide +kernel
theorem dL_law_362 : decode cL_law 362 = .ok (.iadd, 1) := by decide +kernel
theorem dL_law_363 : decode cL_law 363 = .ok (.iaload, 1) := by decide +kernel
theorem dL_law_364 : decode cL_law 364 = .ok (.invokevirtual 48, 3) := by decide +kernel
theorem dL_law_367 : decode cL_law 367 = .ok (.if_icmp .eq 760, 3) := by decide +kernel
theorem dL_law_370 : decode cL_law 370 = .ok (.iconst 0, 1) := by decide +kernel
theorem dL_law_371 : decode cL_law 371 = .ok (.ireturn, 1) := by decide +kernel
theorem dL_law_372 : decode cL_law 372 = .ok (.aload_n 1, 1) := by decide +kernel
theorem dL_law_373 : decode cL_law 373 = .ok (.aload_n 0, 1) := by decide +kernel
theorem dL_law_374 : decode cL_law 374 = .ok (.iload_n 3, 1) := by decide +kernel
theorem dL_law_375 : decode cL_law 375 = .ok (.iconst 1, 1) := by decide +kernel
theorem dL_law_376 : decode cL_law 376 = .ok (.iadd, 1) := by decide +kernel
theorem dL_law_377 : decode cL_law 377 = .ok (.iaload, 1) := by decide +kernel
theorem dL_law_378 : decode cL_law 378 = .ok (.aload_n 0, 1) := by decide +kernel
theorem dL_law_379 : decode cL_law 379 = .ok (.iload_n 3, 1) := by decide +kernel
theorem dL_law_380 : decode cL_law 380 = .ok (.iconst 2, 1) := by decide +kernel
theorem dL_law_381 : decode cL_law 381 = .ok (.iadd, 1) := by decide +kernel
theorem dL_law_382 : decode cL_law 382 = .ok (.iaload, 1) := by decide +kernel
theorem dL_law_383 : decode cL_law 383 = .ok (.aload_n 0, 1) := by decide +kernel
theorem dL_law_384 : decode cL_law 384 = .ok (.iload_n 3, 1) := by decide +kernel
theorem dL_law_385 : decode cL_law 385 = .ok (.iconst 3, 1) := by decide +kernel
theorem dL_law_386 : decode cL_law 386 = .ok (.iadd, 1) := by decide +kernel
theorem dL_law_387 : decode cL_law 387 = .ok (.iaload, 1) := by decide +kernel
theorem dL_law_388 : decode cL_law 388 = .ok (.ifCond .eq 7, 3) := by decide +kernel
theorem dL_law_391 : decode cL_law 391 = .ok (.iconst 1, 1) := by decide +kernel
theorem dL_law_392 : decode cL_law 392 = .ok (.goto 4, 3) := by decide +kernel
theorem dL_law_395 : decode cL_law 395 = .ok (.iconst 0, 1) := by decide +kernel
theorem dL_law_396 : decode cL_law 396 = .ok (.invokevirtual 49, 3) := by decide +kernel
theorem dL_law_399 : decode cL_law 399 = .ok (.aload_n 2, 1) := by decide +kernel
theorem dL_law_400 : decode cL_law 400 = .ok (.aload_n 0, 1) := by decide +kernel
theorem dL_law_401 : decode cL_law 401 = .ok (.iload_n 3, 1) := by decide +kernel
theorem dL_law_402 : decode cL_law 402 = .ok (.iconst 1, 1) := by decide +kernel
theorem dL_law_403 : decode cL_law 403 = .ok (.iadd, 1) := by decide +kernel
theorem dL_law_404 : decode cL_law 404 = .ok (.iaload, 1) := by decide +kernel
theorem dL_law_405 : decode cL_law 405 = .ok (.aload_n 0, 1) := by decide +kernel
theorem dL_law_406 : decode cL_law 406 = .ok (.iload_n 3, 1) := by decide +kernel
theorem dL_law_407 : decode cL_law 407 = .ok (.iconst 2, 1) := by decide +kernel
theorem dL_law_408 : decode cL_law 408 = .ok (.iadd, 1) := by decide +kernel
theorem dL_law_409 : decode cL_law 409 = .ok (.iaload, 1) := by decide +kernel
theorem dL_law_410 : decode cL_law 410 = .ok (.aload_n 0, 1) := by decide +kernel
theorem dL_law_411 : decode cL_law 411 = .ok (.iload_n 3, 1) := by decide +kernel
theorem dL_law_412 : decode cL_law 412 = .ok (.iconst 3, 1) := by decide +kernel
theorem dL_law_413 : decode cL_law 413 = .ok (.iadd, 1) := by decide +kernel
theorem dL_law_414 : decode cL_law 414 = .ok (.iaload, 1) := by decide +kernel
theorem dL_law_415 : decode cL_law 415 = .ok (.ifCond .eq 7, 3) := by decide +kernel
theorem dL_law_418 : decode cL_law 418 = .ok (.iconst 1, 1) := by decide +kernel
theorem dL_law_419 : decode cL_law 419 = .ok (.goto 4, 3) := by decide +kernel
theorem dL_law_422 : decode cL_law 422 = .ok (.iconst 0, 1) := by decide +kernel
theorem dL_law_423 : decode cL_law 423 = .ok (.invokevirtual 53, 3) := by decide +kernel
theorem dL_law_426 : decode cL_law 426 = .ok (.if_icmp .eq 701, 3) := by decide +kernel
theorem dL_law_429 : decode cL_law 429 = .ok (.iconst 0, 1) := by decide +kernel
theorem dL_law_430 : decode cL_law 430 = .ok (.ireturn, 1) := by decide +kernel
theorem dL_law_431 : decode cL_law 431 = .ok (.aload_n 1, 1) := by decide +kernel
theorem dL_law_432 : decode cL_law 432 = .ok (.aload_n 0, 1) := by decide +kernel
theorem dL_law_433 : decode cL_law 433 = .ok (.iload_n 3, 1) := by decide +kernel
theorem dL_law_434 : decode cL_law 434 = .ok (.iconst 1, 1) := by decide +kernel
theorem dL_law_435 : decode cL_law 435 = .ok (.iadd, 1) := by decide +kernel
theorem dL_law_436 : decode cL_law 436 = .ok (.iaload, 1) := by decide +kernel
theorem dL_law_437 : decode cL_law 437 = .ok (.aload_n 0, 1) := by decide +kernel
theorem dL_law_438 : decode cL_law 438 = .ok (.iload_n 3, 1) := by decide +kernel
theorem dL_law_439 : decode cL_law 439 = .ok (.iconst 2, 1) := by decide +kernel
theorem dL_law_440 : decode cL_law 440 = .ok (.iadd, 1) := by decide +kernel
theorem dL_law_441 : decode cL_law 441 = .ok (.iaload, 1) := by decide +kernel
theorem dL_law_442 : decode cL_law 442 = .ok (.invokevirtual 54, 3) := by decide +kernel
theorem dL_law_445 : decode cL_law 445 = .ok (.aload_n 2, 1) := by decide +kernel
theorem dL_law_446 : decode cL_law 446 = .ok (.aload_n 0, 1) := by decide +kernel
theorem dL_law_447 : decode cL_law 447 = .ok (.iload_n 3, 1) := by decide +kernel
theorem dL_law_448 : decode cL_law 448 = .ok (.iconst 1, 1) := by decide +kernel
theorem dL_law_449 : decode cL_law 449 = .ok (.iadd, 1) := by decide +kernel
theorem dL_law_450 : decode cL_law 450 = .ok (.iaload, 1) := by decide +kernel
theorem dL_law_451 : decode cL_law 451 = .ok (.aload_n 0, 1) := by decide +kernel
theorem dL_law_452 : decode cL_law 452 = .ok (.iload_n 3, 1) := by decide +kernel
theorem dL_law_453 : decode cL_law 453 = .ok (.iconst 2, 1) := by decide +kernel
theorem dL_law_454 : decode cL_law 454 = .ok (.iadd, 1) := by decide +kernel
theorem dL_law_455 : decode cL_law 455 = .ok (.iaload, 1) := by decide +kernel
theorem dL_law_456 : decode cL_law 456 = .ok (.invokevirtual 57, 3) := by decide +kernel
theorem dL_law_459 : decode cL_law 459 = .ok (.if_icmp .eq 668, 3) := by decide +kernel
theorem dL_law_462 : decode cL_law 462 = .ok (.iconst 0, 1) := by decide +kernel
theorem dL_law_463 : decode cL_law 463 = .ok (.ireturn, 1) := by decide +kernel
theorem dL_law_464 : decode cL_law 464 = .ok (.aload_n 1, 1) := by decide +kernel
theorem dL_law_465 : decode cL_law 465 = .ok (.aload_n 0, 1) := by decide +kernel
theorem dL_law_466 : decode cL_law 466 = .ok (.iload_n 3, 1) := by decide +kernel
theorem dL_law_467 : decode cL_law 467 = .ok (.iconst 1, 1) := by decide +kernel
theorem dL_law_468 : decode cL_law 468 = .ok (.iadd, 1) := by decide +kernel
theorem dL_law_469 : decode cL_law 469 = .ok (.iaload, 1) := by decide +kernel
theorem dL_law_470 : decode cL_law 470 = .ok (.aload_n 0, 1) := by decide +kernel
theorem dL_law_471 : decode cL_law 471 = .ok (.iload_n 3, 1) := by decide +kernel
theorem dL_law_472 : decode cL_law 472 = .ok (.iconst 2, 1) := by decide +kernel
theorem dL_law_473 : decode cL_law 473 = .ok (.iadd, 1) := by decide +kernel
theorem dL_law_474 : decode cL_law 474 = .ok (.iaload, 1) := by decide +kernel
theorem dL_law_475 : decode cL_law 475 = .ok (.invokevirtual 58, 3) := by decide +kernel
theorem dL_law_478 : decode cL_law 478 = .ok (.aload_n 2, 1) := by decide +kernel
theorem dL_law_479 : decode cL_law 479 = .ok (.aload_n 0, 1) := by decide +kernel
theorem dL_law_480 : decode cL_law 480 = .ok (.iload_n 3, 1) := by decide +kernel
theorem dL_law_481 : decode cL_law 481 = .ok (.iconst 1, 1) := by decide +kernel
theorem dL_law_482 : decode cL_law 482 = .ok (.iadd, 1) := by decide +kernel
theorem dL_law_483 : decode cL_law 483 = .ok (.iaload, 1) := by decide +kernel
theorem dL_law_484 : decode cL_law 484 = .ok (.aload_n 0, 1) := by decide +kernel
theorem dL_law_485 : decode cL_law 485 = .ok (.iload_n 3, 1) := by decide +kernel
theorem dL_law_486 : decode cL_law 486 = .ok (.iconst 2, 1) := by decide +kernel
theorem dL_law_487 : decode cL_law 487 = .ok (.iadd, 1) := by decide +kernel
theorem dL_law_488 : decode cL_law 488 = .ok (.iaload, 1) := by decide +kernel
theorem dL_law_489 : decode cL_law 489 = .ok (.invokevirtual 61, 3) := by decide +kernel
theorem dL_law_492 : decode cL_law 492 = .ok (.if_icmp .eq 635, 3) := by decide +kernel
theorem dL_law_495 : decode cL_law 495 = .ok (.iconst 0, 1) := by decide +kernel
theorem dL_law_496 : decode cL_law 496 = .ok (.ireturn, 1) := by decide +kernel
theorem dL_law_497 : decode cL_law 497 = .ok (.aload_n 1, 1) := by decide +kernel
theorem dL_law_498 : decode cL_law 498 = .ok (.aload_n 0, 1) := by decide +kernel
theorem dL_law_499 : decode cL_law 499 = .ok (.iload_n 3, 1) := by decide +kernel
theorem dL_law_500 : decode cL_law 500 = .ok (.iconst 1, 1) := by decide +kernel
theorem dL_law_501 : decode cL_law 501 = .ok (.iadd, 1) := by decide +kernel
theorem dL_law_502 : decode cL_law 502 = .ok (.iaload, 1) := by decide +kernel
theorem dL_law_503 : decode cL_law 503 = .ok (.invokevirtual 62, 3) := by decide +kernel
theorem dL_law_506 : decode cL_law 506 = .ok (.aload_n 2, 1) := by decide +kernel
theorem dL_law_507 : decode cL_law 507 = .ok (.aload_n 0, 1) := by decide +kernel
theorem dL_law_508 : decode cL_law 508 = .ok (.iload_n 3, 1) := by decide +kernel
theorem dL_law_509 : decode cL_law 509 = .ok (.iconst 1, 1) := by decide +kernel
theorem dL_law_510 : decode cL_law 510 = .ok (.iadd, 1) := by decide +kernel
theorem dL_law_511 : decode cL_law 511 = .ok (.iaload, 1) := by decide +kernel
theorem dL_law_512 : decode cL_law 512 = .ok (.invokevirtual 65, 3) := by decide +kernel
theorem dL_law_515 : decode cL_law 515 = .ok (.if_icmp .eq 612, 3) := by decide +kernel
theorem dL_law_518 : decode cL_law 518 = .ok (.iconst 0, 1) := by decide +kernel
theorem dL_law_519 : decode cL_law 519 = .ok (.ireturn, 1) := by decide +kernel
theorem dL_law_520 : decode cL_law 520 = .ok (.aload_n 1, 1) := by decide +kernel
theorem dL_law_521 : decode cL_law 521 = .ok (.aload_n 0, 1) := by decide +kernel
theorem dL_law_522 : decode cL_law 522 = .ok (.iload_n 3, 1) := by decide +kernel
theorem dL_law_523 : decode cL_law 523 = .ok (.iconst 1, 1) := by decide +kernel
theorem dL_law_524 : decode cL_law 524 = .ok (.iadd, 1) := by decide +kernel
theorem dL_law_525 : decode cL_law 525 = .ok (.iaload, 1) := by decide +kernel
theorem dL_law_526 : decode cL_law 526 = .ok (.aload_n 0, 1) := by decide +kernel
theorem dL_law_527 : decode cL_law 527 = .ok (.iload_n 3, 1) := by decide +kernel
theorem dL_law_528 : decode cL_law 528 = .ok (.iconst 2, 1) := by decide +kernel
theorem dL_law_529 : decode cL_law 529 = .ok (.iadd, 1) := by decide +kernel
theorem dL_law_530 : decode cL_law 530 = .ok (.iaload, 1) := by decide +kernel
theorem dL_law_531 : decode cL_law 531 = .ok (.invokevirtual 66, 3) := by decide +kernel
theorem dL_law_534 : decode cL_law 534 = .ok (.aload_n 2, 1) := by decide +kernel
theorem dL_law_535 : decode cL_law 535 = .ok (.aload_n 0, 1) := by decide +kernel
theorem dL_law_536 : decode cL_law 536 = .ok (.iload_n 3, 1) := by decide +kernel
theorem dL_law_537 : decode cL_law 537 = .ok (.iconst 1, 1) := by decide +kernel
theorem dL_law_538 : decode cL_law 538 = .ok (.iadd, 1) := by decide +kernel
theorem dL_law_539 : decode cL_law 539 = .ok (.iaload, 1) := by decide +kernel
theorem dL_law_540 : decode cL_law 540 = .ok (.aload_n 0, 1) := by decide +kernel
theorem dL_law_541 : decode cL_law 541 = .ok (.iload_n 3, 1) := by decide +kernel
theorem dL_law_542 : decode cL_law 542 = .ok (.iconst 2, 1) := by decide +kernel
theorem dL_law_543 : decode cL_law 543 = .ok (.iadd, 1) := by decide +kernel
theorem dL_law_544 : decode cL_law 544 = .ok (.iaload, 1) := by decide +kernel
theorem dL_law_545 : decode cL_law 545 = .ok (.invokevirtual 69, 3) := by decide +kernel
theorem dL_law_548 : decode cL_law 548 = .ok (.if_icmp .eq 579, 3) := by decide +kernel
theorem dL_law_551 : decode cL_law 551 = .ok (.iconst 0, 1) := by decide +kernel
theorem dL_law_552 : decode cL_law 552 = .ok (.ireturn, 1) := by decide +kernel
theorem dL_law_553 : decode cL_law 553 = .ok (.aload_n 1, 1) := by decide +kernel
theorem dL_law_554 : decode cL_law 554 = .ok (.aload_n 0, 1) := by decide +kernel
theorem dL_law_555 : decode cL_law 555 = .ok (.iload_n 3, 1) := by decide +kernel
theorem dL_law_556 : decode cL_law 556 = .ok (.iconst 1, 1) := by decide +kernel
theorem dL_law_557 : decode cL_law 557 = .ok (.iadd, 1) := by decide +kernel
theorem dL_law_558 : decode cL_law 558 = .ok (.iaload, 1) := by decide +kernel
theorem dL_law_559 : decode cL_law 559 = .ok (.invokevirtual 70, 3) := by decide +kernel
theorem dL_law_562 : decode cL_law 562 = .ok (.aload_n 2, 1) := by decide +kernel
theorem dL_law_563 : decode cL_law 563 = .ok (.aload_n 0, 1) := by decide +kernel
theorem dL_law_564 : decode cL_law 564 = .ok (.iload_n 3, 1) := by decide +kernel
theorem dL_law_565 : decode cL_law 565 = .ok (.iconst 1, 1) := by decide +kernel
theorem dL_law_566 : decode cL_law 566 = .ok (.iadd, 1) := by decide +kernel
theorem dL_law_567 : decode cL_law 567 = .ok (.iaload, 1) := by decide +kernel
theorem dL_law_568 : decode cL_law 568 = .ok (.invokevirtual 73, 3) := by decide +kernel
theorem dL_law_571 : decode cL_law 571 = .ok (.if_icmp .eq 556, 3) := by decide +kernel
theorem dL_law_574 : decode cL_law 574 = .ok (.iconst 0, 1) := by decide +kernel
theorem dL_law_575 : decode cL_law 575 = .ok (.ireturn, 1) := by decide +kernel
theorem dL_law_576 : decode cL_law 576 = .ok (.aload_n 1, 1) := by decide +kernel
theorem dL_law_577 : decode cL_law 577 = .ok (.invokevirtual 74, 3) := by decide +kernel
theorem dL_law_580 : decode cL_law 580 = .ok (.aload_n 2, 1) := by decide +kernel
theorem dL_law_581 : decode cL_law 581 = .ok (.invokevirtual 77, 3) := by decide +kernel
theorem dL_law_584 : decode cL_law 584 = .ok (.if_icmp .eq 543, 3) := by decide +kernel
theorem dL_law_587 : decode cL_law 587 = .ok (.iconst 0, 1) := by decide +kernel
theorem dL_law_588 : decode cL_law 588 = .ok (.ireturn, 1) := by decide +kernel
theorem dL_law_589 : decode cL_law 589 = .ok (.aload_n 1, 1) := by decide +kernel
theorem dL_law_590 : decode cL_law 590 = .ok (.aload_n 0, 1) := by decide +kernel
theorem dL_law_591 : decode cL_law 591 = .ok (.iload_n 3, 1) := by decide +kernel
theorem dL_law_592 : decode cL_law 592 = .ok (.iconst 1, 1) := by decide +kernel
theorem dL_law_593 : decode cL_law 593 = .ok (.iadd, 1) := by decide +kernel
theorem dL_law_594 : decode cL_law 594 = .ok (.iaload, 1) := by decide +kernel
theorem dL_law_595 : decode cL_law 595 = .ok (.invokevirtual 78, 3) := by decide +kernel
theorem dL_law_598 : decode cL_law 598 = .ok (.aload_n 2, 1) := by decide +kernel
theorem dL_law_599 : decode cL_law 599 = .ok (.aload_n 0, 1) := by decide +kernel
theorem dL_law_600 : decode cL_law 600 = .ok (.iload_n 3, 1) := by decide +kernel
theorem dL_law_601 : decode cL_law 601 = .ok (.iconst 1, 1) := by decide +kernel
theorem dL_law_602 : decode cL_law 602 = .ok (.iadd, 1) := by decide +kernel
theorem dL_law_603 : decode cL_law 603 = .ok (.iaload, 1) := by decide +kernel
theorem dL_law_604 : decode cL_law 604 = .ok (.invokevirtual 81, 3) := by decide +kernel
theorem dL_law_607 : decode cL_law 607 = .ok (.if_icmp .eq 520, 3) := by decide +kernel
theorem dL_law_610 : decode cL_law 610 = .ok (.iconst 0, 1) := by decide +kernel
theorem dL_law_611 : decode cL_law 611 = .ok (.ireturn, 1) := by decide +kernel
theorem dL_law_612 : decode cL_law 612 = .ok (.aload_n 1, 1) := by decide +kernel
theorem dL_law_613 : decode cL_law 613 = .ok (.aload_n 0, 1) := by decide +kernel
theorem dL_law_614 : decode cL_law 614 = .ok (.iload_n 3, 1) := by decide +kernel
theorem dL_law_615 : decode cL_law 615 = .ok (.iconst 1, 1) := by decide +kernel
theorem dL_law_616 : decode cL_law 616 = .ok (.iadd, 1) := by decide +kernel
theorem dL_law_617 : decode cL_law 617 = .ok (.iaload, 1) := by decide +kernel
theorem dL_law_618 : decode cL_law 618 = .ok (.aload_n 0, 1) := by decide +kernel
theorem dL_law_619 : decode cL_law 619 = .ok (.iload_n 3, 1) := by decide +kernel
theorem dL_law_620 : decode cL_law 620 = .ok (.iconst 2, 1) := by decide +kernel
theorem dL_law_621 : decode cL_law 621 = .ok (.iadd, 1) := by decide +kernel
theorem dL_law_622 : decode cL_law 622 = .ok (.iaload, 1) := by decide +kernel
theorem dL_law_623 : decode cL_law 623 = .ok (.invokevirtual 82, 3) := by decide +kernel
theorem dL_law_626 : decode cL_law 626 = .ok (.aload_n 2, 1) := by decide +kernel
theorem dL_law_627 : decode cL_law 627 = .ok (.aload_n 0, 1) := by decide +kernel
theorem dL_law_628 : decode cL_law 628 = .ok (.iload_n 3, 1) := by decide +kernel
theorem dL_law_629 : decode cL_law 629 = .ok (.iconst 1, 1) := by decide +kernel
theorem dL_law_630 : decode cL_law 630 = .ok (.iadd, 1) := by decide +kernel
theorem dL_law_631 : decode cL_law 631 = .ok (.iaload, 1) := by decide +kernel
theorem dL_law_632 : decode cL_law 632 = .ok (.aload_n 0, 1) := by decide +kernel
theorem dL_law_633 : decode cL_law 633 = .ok (.iload_n 3, 1) := by decide +kernel
theorem dL_law_634 : decode cL_law 634 = .ok (.iconst 2, 1) := by decide +kernel
theorem dL_law_635 : decode cL_law 635 = .ok (.iadd, 1) := by decide +kernel
theorem dL_law_636 : decode cL_law 636 = .ok (.iaload, 1) := by decide +kernel
theorem dL_law_637 : decode cL_law 637 = .ok (.invokevirtual 85, 3) := by decide +kernel
theorem dL_law_640 : decode cL_law 640 = .ok (.if_icmp .eq 487, 3) := by decide +kernel
theorem dL_law_643 : decode cL_law 643 = .ok (.iconst 0, 1) := by decide +kernel
theorem dL_law_644 : decode cL_law 644 = .ok (.ireturn, 1) := by decide +kernel
theorem dL_law_645 : decode cL_law 645 = .ok (.aload_n 1, 1) := by decide +kernel
theorem dL_law_646 : decode cL_law 646 = .ok (.aload_n 0, 1) := by decide +kernel
theorem dL_law_647 : decode cL_law 647 = .ok (.iload_n 3, 1) := by decide +kernel
theorem dL_law_648 : decode cL_law 648 = .ok (.iconst 1, 1) := by decide +kernel
theorem dL_law_649 : decode cL_law 649 = .ok (.iadd, 1) := by decide +kernel
theorem dL_law_650 : decode cL_law 650 = .ok (.iaload, 1) := by decide +kernel
theorem dL_law_651 : decode cL_law 651 = .ok (.aload_n 0, 1) := by decide +kernel
theorem dL_law_652 : decode cL_law 652 = .ok (.iload_n 3, 1) := by decide +kernel
theorem dL_law_653 : decode cL_law 653 = .ok (.iconst 2, 1) := by decide +kernel
theorem dL_law_654 : decode cL_law 654 = .ok (.iadd, 1) := by decide +kernel
theorem dL_law_655 : decode cL_law 655 = .ok (.iaload, 1) := by decide +kernel
theorem dL_law_656 : decode cL_law 656 = .ok (.aload_n 0, 1) := by decide +kernel
theorem dL_law_657 : decode cL_law 657 = .ok (.iload_n 3, 1) := by decide +kernel
theorem dL_law_658 : decode cL_law 658 = .ok (.iconst 3, 1) := by decide +kernel
theorem dL_law_659 : decode cL_law 659 = .ok (.iadd, 1) := by decide +kernel
theorem dL_law_660 : decode cL_law 660 = .ok (.iaload, 1) := by decide +kernel
theorem dL_law_661 : decode cL_law 661 = .ok (.invokevirtual 86, 3) := by decide +kernel
theorem dL_law_664 : decode cL_law 664 = .ok (.aload_n 2, 1) := by decide +kernel
theorem dL_law_665 : decode cL_law 665 = .ok (.aload_n 0, 1) := by decide +kernel
theorem dL_law_666 : decode cL_law 666 = .ok (.iload_n 3, 1) := by decide +kernel
theorem dL_law_667 : decode cL_law 667 = .ok (.iconst 1, 1) := by decide +kernel
theorem dL_law_668 : decode cL_law 668 = .ok (.iadd, 1) := by decide +kernel
theorem dL_law_669 : decode cL_law 669 = .ok (.iaload, 1) := by decide +kernel
theorem dL_law_670 : decode cL_law 670 = .ok (.aload_n 0, 1) := by decide +kernel
theorem dL_law_671 : decode cL_law 671 = .ok (.iload_n 3, 1) := by decide +kernel
theorem dL_law_672 : decode cL_law 672 = .ok (.iconst 2, 1) := by decide +kernel
theorem dL_law_673 : decode cL_law 673 = .ok (.iadd, 1) := by decide +kernel
theorem dL_law_674 : decode cL_law 674 = .ok (.iaload, 1) := by decide +kernel
theorem dL_law_675 : decode cL_law 675 = .ok (.aload_n 0, 1) := by decide +kernel
theorem dL_law_676 : decode cL_law 676 = .ok (.iload_n 3, 1) := by decide +kernel
theorem dL_law_677 : decode cL_law 677 = .ok (.iconst 3, 1) := by decide +kernel
theorem dL_law_678 : decode cL_law 678 = .ok (.iadd, 1) := by decide +kernel
theorem dL_law_679 : decode cL_law 679 = .ok (.iaload, 1) := by decide +kernel
theorem dL_law_680 : decode cL_law 680 = .ok (.invokevirtual 89, 3) := by decide +kernel
theorem dL_law_683 : decode cL_law 683 = .ok (.if_icmp .eq 444, 3) := by decide +kernel
theorem dL_law_686 : decode cL_law 686 = .ok (.iconst 0, 1) := by decide +kernel
theorem dL_law_687 : decode cL_law 687 = .ok (.ireturn, 1) := by decide +kernel
theorem dL_law_688 : decode cL_law 688 = .ok (.aload_n 1, 1) := by decide +kernel
theorem dL_law_689 : decode cL_law 689 = .ok (.aload_n 0, 1) := by decide +kernel
theorem dL_law_690 : decode cL_law 690 = .ok (.iload_n 3, 1) := by decide +kernel
theorem dL_law_691 : decode cL_law 691 = .ok (.iconst 1, 1) := by decide +kernel
theorem dL_law_692 : decode cL_law 692 = .ok (.iadd, 1) := by decide +kernel
theorem dL_law_693 : decode cL_law 693 = .ok (.iaload, 1) := by decide +kernel
theorem dL_law_694 : decode cL_law 694 = .ok (.aload_n 0, 1) := by decide +kernel
theorem dL_law_695 : decode cL_law 695 = .ok (.iload_n 3, 1) := by decide +kernel
theorem dL_law_696 : decode cL_law 696 = .ok (.iconst 2, 1) := by decide +kernel
theorem dL_law_697 : decode cL_law 697 = .ok (.iadd, 1) := by decide +kernel
theorem dL_law_698 : decode cL_law 698 = .ok (.iaload, 1) := by decide +kernel
theorem dL_law_699 : decode cL_law 699 = .ok (.aload_n 0, 1) := by decide +kernel
theorem dL_law_700 : decode cL_law 700 = .ok (.iload_n 3, 1) := by decide +kernel
theorem dL_law_701 : decode cL_law 701 = .ok (.iconst 3, 1) := by decide +kernel
theorem dL_law_702 : decode cL_law 702 = .ok (.iadd, 1) := by decide +kernel
theorem dL_law_703 : decode cL_law 703 = .ok (.iaload, 1) := by decide +kernel
theorem dL_law_704 : decode cL_law 704 = .ok (.invokevirtual 90, 3) := by decide +kernel
theorem dL_law_707 : decode cL_law 707 = .ok (.aload_n 2, 1) := by decide +kernel
theorem dL_law_708 : decode cL_law 708 = .ok (.aload_n 0, 1) := by decide +kernel
theorem dL_law_709 : decode cL_law 709 = .ok (.iload_n 3, 1) := by decide +kernel
theorem dL_law_710 : decode cL_law 710 = .ok (.iconst 1, 1) := by decide +kernel
theorem dL_law_711 : decode cL_law 711 = .ok (.iadd, 1) := by decide +kernel
theorem dL_law_712 : decode cL_law 712 = .ok (.iaload, 1) := by decide +kernel
theorem dL_law_713 : decode cL_law 713 = .ok (.aload_n 0, 1) := by decide +kernel
theorem dL_law_714 : decode cL_law 714 = .ok (.iload_n 3, 1) := by decide +kernel
theorem dL_law_715 : decode cL_law 715 = .ok (.iconst 2, 1) := by decide +kernel
theorem dL_law_716 : decode cL_law 716 = .ok (.iadd, 1) := by decide +kernel
theorem dL_law_717 : decode cL_law 717 = .ok (.iaload, 1) := by decide +kernel
theorem dL_law_718 : decode cL_law 718 = .ok (.aload_n 0, 1) := by decide +kernel
theorem dL_law_719 : decode cL_law 719 = .ok (.iload_n 3, 1) := by decide +kernel
theorem dL_law_720 : decode cL_law 720 = .ok (.iconst 3, 1) := by decide +kernel
theorem dL_law_721 : decode cL_law 721 = .ok (.iadd, 1) := by decide +kernel
theorem dL_law_722 : decode cL_law 722 = .ok (.iaload, 1) := by decide +kernel
theorem dL_law_723 : decode cL_law 723 = .ok (.invokevirtual 93, 3) := by decide +kernel
theorem dL_law_726 : decode cL_law 726 = .ok (.if_icmp .eq 401, 3) := by decide +kernel
theorem dL_law_729 : decode cL_law 729 = .ok (.iconst 0, 1) := by decide +kernel
theorem dL_law_730 : decode cL_law 730 = .ok (.ireturn, 1) := by decide +kernel
theorem dL_law_731 : decode cL_law 731 = .ok (.aload_n 1, 1) := by decide +kernel
theorem dL_law_732 : decode cL_law 732 = .ok (.aload_n 0, 1) := by decide +kernel
theorem dL_law_733 : decode cL_law 733 = .ok (.iload_n 3, 1) := by decide +kernel
theorem dL_law_734 : decode cL_law 734 = .ok (.iconst 1, 1) := by decide +kernel
theorem dL_law_735 : decode cL_law 735 = .ok (.iadd, 1) := by decide +kernel
theorem dL_law_736 : decode cL_law 736 = .ok (.iaload, 1) := by decide +kernel
theorem dL_law_737 : decode cL_law 737 = .ok (.aload_n 0, 1) := by decide +kernel
theorem dL_law_738 : decode cL_law 738 = .ok (.iload_n 3, 1) := by decide +kernel
theorem dL_law_739 : decode cL_law 739 = .ok (.iconst 2, 1) := by decide +kernel
theorem dL_law_740 : decode cL_law 740 = .ok (.iadd, 1) := by decide +kernel
theorem dL_law_741 : decode cL_law 741 = .ok (.iaload, 1) := by decide +kernel
theorem dL_law_742 : decode cL_law 742 = .ok (.i2l, 1) := by decide +kernel
theorem dL_law_743 : decode cL_law 743 = .ok (.bipush 32, 2) := by decide +kernel
theorem dL_law_745 : decode cL_law 745 = .ok (.lshl, 1) := by decide +kernel
theorem dL_law_746 : decode cL_law 746 = .ok (.aload_n 0, 1) := by decide +kernel
theorem dL_law_747 : decode cL_law 747 = .ok (.iload_n 3, 1) := by decide +kernel
theorem dL_law_748 : decode cL_law 748 = .ok (.iconst 3, 1) := by decide +kernel
theorem dL_law_749 : decode cL_law 749 = .ok (.iadd, 1) := by decide +kernel
theorem dL_law_750 : decode cL_law 750 = .ok (.iaload, 1) := by decide +kernel
theorem dL_law_751 : decode cL_law 751 = .ok (.i2l, 1) := by decide +kernel
theorem dL_law_752 : decode cL_law 752 = .ok (.ldc2_w 94, 3) := by decide +kernel
theorem dL_law_755 : decode cL_law 755 = .ok (.land, 1) := by decide +kernel
theorem dL_law_756 : decode cL_law 756 = .ok (.lor, 1) := by decide +kernel
theorem dL_law_757 : decode cL_law 757 = .ok (.invokevirtual 96, 3) := by decide +kernel
theorem dL_law_760 : decode cL_law 760 = .ok (.aload_n 2, 1) := by decide +kernel
theorem dL_law_761 : decode cL_law 761 = .ok (.aload_n 0, 1) := by decide +kernel
theorem dL_law_762 : decode cL_law 762 = .ok (.iload_n 3, 1) := by decide +kernel
theorem dL_law_763 : decode cL_law 763 = .ok (.iconst 1, 1) := by decide +kernel
theorem dL_law_764 : decode cL_law 764 = .ok (.iadd, 1) := by decide +kernel
theorem dL_law_765 : decode cL_law 765 = .ok (.iaload, 1) := by decide +kernel
theorem dL_law_766 : decode cL_law 766 = .ok (.aload_n 0, 1) := by decide +kernel
theorem dL_law_767 : decode cL_law 767 = .ok (.iload_n 3, 1) := by decide +kernel
theorem dL_law_768 : decode cL_law 768 = .ok (.iconst 2, 1) := by decide +kernel
theorem dL_law_769 : decode cL_law 769 = .ok (.iadd, 1) := by decide +kernel
theorem dL_law_770 : decode cL_law 770 = .ok (.iaload, 1) := by decide +kernel
theorem dL_law_771 : decode cL_law 771 = .ok (.i2l, 1) := by decide +kernel
theorem dL_law_772 : decode cL_law 772 = .ok (.bipush 32, 2) := by decide +kernel
theorem dL_law_774 : decode cL_law 774 = .ok (.lshl, 1) := by decide +kernel
theorem dL_law_775 : decode cL_law 775 = .ok (.aload_n 0, 1) := by decide +kernel
theorem dL_law_776 : decode cL_law 776 = .ok (.iload_n 3, 1) := by decide +kernel
theorem dL_law_777 : decode cL_law 777 = .ok (.iconst 3, 1) := by decide +kernel
theorem dL_law_778 : decode cL_law 778 = .ok (.iadd, 1) := by decide +kernel
theorem dL_law_779 : decode cL_law 779 = .ok (.iaload, 1) := by decide +kernel
theorem dL_law_780 : decode cL_law 780 = .ok (.i2l, 1) := by decide +kernel
theorem dL_law_781 : decode cL_law 781 = .ok (.ldc2_w 94, 3) := by decide +kernel
theorem dL_law_784 : decode cL_law 784 = .ok (.land, 1) := by decide +kernel
theorem dL_law_785 : decode cL_law 785 = .ok (.lor, 1) := by decide +kernel
theorem dL_law_786 : decode cL_law 786 = .ok (.invokevirtual 100, 3) := by decide +kernel
theorem dL_law_789 : decode cL_law 789 = .ok (.if_icmp .eq 338, 3) := by decide +kernel
theorem dL_law_792 : decode cL_law 792 = .ok (.iconst 0, 1) := by decide +kernel
theorem dL_law_793 : decode cL_law 793 = .ok (.ireturn, 1) := by decide +kernel
theorem dL_law_794 : decode cL_law 794 = .ok (.aload_n 1, 1) := by decide +kernel
theorem dL_law_795 : decode cL_law 795 = .ok (.aload_n 0, 1) := by decide +kernel
theorem dL_law_796 : decode cL_law 796 = .ok (.iload_n 3, 1) := by decide +kernel
theorem dL_law_797 : decode cL_law 797 = .ok (.iconst 1, 1) := by decide +kernel
theorem dL_law_798 : decode cL_law 798 = .ok (.iadd, 1) := by decide +kernel
theorem dL_law_799 : decode cL_law 799 = .ok (.iaload, 1) := by decide +kernel
theorem dL_law_800 : decode cL_law 800 = .ok (.aload_n 0, 1) := by decide +kernel
theorem dL_law_801 : decode cL_law 801 = .ok (.iload_n 3, 1) := by decide +kernel
theorem dL_law_802 : decode cL_law 802 = .ok (.iconst 2, 1) := by decide +kernel
theorem dL_law_803 : decode cL_law 803 = .ok (.iadd, 1) := by decide +kernel
theorem dL_law_804 : decode cL_law 804 = .ok (.iaload, 1) := by decide +kernel
theorem dL_law_805 : decode cL_law 805 = .ok (.aload_n 0, 1) := by decide +kernel
theorem dL_law_806 : decode cL_law 806 = .ok (.iload_n 3, 1) := by decide +kernel
theorem dL_law_807 : decode cL_law 807 = .ok (.iconst 3, 1) := by decide +kernel
theorem dL_law_808 : decode cL_law 808 = .ok (.iadd, 1) := by decide +kernel
theorem dL_law_809 : decode cL_law 809 = .ok (.iaload, 1) := by decide +kernel
theorem dL_law_810 : decode cL_law 810 = .ok (.invokevirtual 101, 3) := by decide +kernel
theorem dL_law_813 : decode cL_law 813 = .ok (.aload_n 2, 1) := by decide +kernel
theorem dL_law_814 : decode cL_law 814 = .ok (.aload_n 0, 1) := by decide +kernel
theorem dL_law_815 : decode cL_law 815 = .ok (.iload_n 3, 1) := by decide +kernel
theorem dL_law_816 : decode cL_law 816 = .ok (.iconst 1, 1) := by decide +kernel
theorem dL_law_817 : decode cL_law 817 = .ok (.iadd, 1) := by decide +kernel
theorem dL_law_818 : decode cL_law 818 = .ok (.iaload, 1) := by decide +kernel
theorem dL_law_819 : decode cL_law 819 = .ok (.aload_n 0, 1) := by decide +kernel
theorem dL_law_820 : decode cL_law 820 = .ok (.iload_n 3, 1) := by decide +kernel
theorem dL_law_821 : decode cL_law 821 = .ok (.iconst 2, 1) := by decide +kernel
theorem dL_law_822 : decode cL_law 822 = .ok (.iadd, 1) := by decide +kernel
theorem dL_law_823 : decode cL_law 823 = .ok (.iaload, 1) := by decide +kernel
theorem dL_law_824 : decode cL_law 824 = .ok (.aload_n 0, 1) := by decide +kernel
theorem dL_law_825 : decode cL_law 825 = .ok (.iload_n 3, 1) := by decide +kernel
theorem dL_law_826 : decode cL_law 826 = .ok (.iconst 3, 1) := by decide +kernel
theorem dL_law_827 : decode cL_law 827 = .ok (.iadd, 1) := by decide +kernel
theorem dL_law_828 : decode cL_law 828 = .ok (.iaload, 1) := by decide +kernel
theorem dL_law_829 : decode cL_law 829 = .ok (.invokevirtual 104, 3) := by decide +kernel
theorem dL_law_832 : decode cL_law 832 = .ok (.if_icmp .eq 295, 3) := by decide +kernel
theorem dL_law_835 : decode cL_law 835 = .ok (.iconst 0, 1) := by decide +kernel
theorem dL_law_836 : decode cL_law 836 = .ok (.ireturn, 1) := by decide +kernel
theorem dL_law_837 : decode cL_law 837 = .ok (.aload_n 1, 1) := by decide +kernel
theorem dL_law_838 : decode cL_law 838 = .ok (.invokevirtual 105, 3) := by decide +kernel
theorem dL_law_841 : decode cL_law 841 = .ok (.aload_n 2, 1) := by decide +kernel
theorem dL_law_842 : decode cL_law 842 = .ok (.invokevirtual 108, 3) := by decide +kernel
theorem dL_law_845 : decode cL_law 845 = .ok (.if_icmp .eq 282, 3) := by decide +kernel
theorem dL_law_848 : decode cL_law 848 = .ok (.iconst 0, 1) := by decide +kernel
theorem dL_law_849 : decode cL_law 849 = .ok (.ireturn, 1) := by decide +kernel
theorem dL_law_850 : decode cL_law 850 = .ok (.aload_n 1, 1) := by decide +kernel
theorem dL_law_851 : decode cL_law 851 = .ok (.invokevirtual 109, 3) := by decide +kernel
theorem dL_law_854 : decode cL_law 854 = .ok (.aload_n 2, 1) := by decide +kernel
theorem dL_law_855 : decode cL_law 855 = .ok (.invokevirtual 112, 3) := by decide +kernel
theorem dL_law_858 : decode cL_law 858 = .ok (.if_icmp .eq 269, 3) := by decide +kernel
theorem dL_law_861 : decode cL_law 861 = .ok (.iconst 0, 1) := by decide +kernel
theorem dL_law_862 : decode cL_law 862 = .ok (.ireturn, 1) := by decide +kernel
theorem dL_law_863 : decode cL_law 863 = .ok (.aload_n 1, 1) := by decide +kernel
theorem dL_law_864 : decode cL_law 864 = .ok (.aload_n 0, 1) := by decide +kernel
theorem dL_law_865 : decode cL_law 865 = .ok (.iload_n 3, 1) := by decide +kernel
theorem dL_law_866 : decode cL_law 866 = .ok (.iconst 1, 1) := by decide +kernel
theorem dL_law_867 : decode cL_law 867 = .ok (.iadd, 1) := by decide +kernel
theorem dL_law_868 : decode cL_law 868 = .ok (.iaload, 1) := by decide +kernel
theorem dL_law_869 : decode cL_law 869 = .ok (.aload_n 0, 1) := by decide +kernel
theorem dL_law_870 : decode cL_law 870 = .ok (.iload_n 3, 1) := by decide +kernel
theorem dL_law_871 : decode cL_law 871 = .ok (.iconst 2, 1) := by decide +kernel
theorem dL_law_872 : decode cL_law 872 = .ok (.iadd, 1) := by decide +kernel
theorem dL_law_873 : decode cL_law 873 = .ok (.iaload, 1) := by decide +kernel
theorem dL_law_874 : decode cL_law 874 = .ok (.ifCond .eq 7, 3) := by decide +kernel
theorem dL_law_877 : decode cL_law 877 = .ok (.iconst 1, 1) := by decide +kernel
theorem dL_law_878 : decode cL_law 878 = .ok (.goto 4, 3) := by decide +kernel
theorem dL_law_881 : decode cL_law 881 = .ok (.iconst 0, 1) := by decide +kernel
theorem dL_law_882 : decode cL_law 882 = .ok (.invokevirtual 113, 3) := by decide +kernel
theorem dL_law_885 : decode cL_law 885 = .ok (.aload_n 2, 1) := by decide +kernel
theorem dL_law_886 : decode cL_law 886 = .ok (.aload_n 0, 1) := by decide +kernel
theorem dL_law_887 : decode cL_law 887 = .ok (.iload_n 3, 1) := by decide +kernel
theorem dL_law_888 : decode cL_law 888 = .ok (.iconst 1, 1) := by decide +kernel
theorem dL_law_889 : decode cL_law 889 = .ok (.iadd, 1) := by decide +kernel
theorem dL_law_890 : decode cL_law 890 = .ok (.iaload, 1) := by decide +kernel
theorem dL_law_891 : decode cL_law 891 = .ok (.aload_n 0, 1) := by decide +kernel
theorem dL_law_892 : decode cL_law 892 = .ok (.iload_n 3, 1) := by decide +kernel
theorem dL_law_893 : decode cL_law 893 = .ok (.iconst 2, 1) := by decide +kernel
theorem dL_law_894 : decode cL_law 894 = .ok (.iadd, 1) := by decide +kernel
theorem dL_law_895 : decode cL_law 895 = .ok (.iaload, 1) := by decide +kernel
theorem dL_law_896 : decode cL_law 896 = .ok (.ifCond .eq 7, 3) := by decide +kernel
theorem dL_law_899 : decode cL_law 899 = .ok (.iconst 1, 1) := by decide +kernel
theorem dL_law_900 : decode cL_law 900 = .ok (.goto 4, 3) := by decide +kernel
theorem dL_law_903 : decode cL_law 903 = .ok (.iconst 0, 1) := by decide +kernel
theorem dL_law_904 : decode cL_law 904 = .ok (.invokevirtual 117, 3) := by decide +kernel
theorem dL_law_907 : decode cL_law 907 = .ok (.if_icmp .eq 220, 3) := by decide +kernel
theorem dL_law_910 : decode cL_law 910 = .ok (.iconst 0, 1) := by decide +kernel
theorem dL_law_911 : decode cL_law 911 = .ok (.ireturn, 1) := by decide +kernel
theorem dL_law_912 : decode cL_law 912 = .ok (.aload_n 1, 1) := by decide +kernel
theorem dL_law_913 : decode cL_law 913 = .ok (.aload_n 0, 1) := by decide +kernel
theorem dL_law_914 : decode cL_law 914 = .ok (.iload_n 3, 1) := by decide +kernel
theorem dL_law_915 : decode cL_law 915 = .ok (.iconst 1, 1) := by decide +kernel
theorem dL_law_916 : decode cL_law 916 = .ok (.iadd, 1) := by decide +kernel
theorem dL_law_917 : decode cL_law 917 = .ok (.iaload, 1) := by decide +kernel
theorem dL_law_918 : decode cL_law 918 = .ok (.aload_n 0, 1) := by decide +kernel
theorem dL_law_919 : decode cL_law 919 = .ok (.iload_n 3, 1) := by decide +kernel
theorem dL_law_920 : decode cL_law 920 = .ok (.iconst 2, 1) := by decide +kernel
theorem dL_law_921 : decode cL_law 921 = .ok (.iadd, 1) := by decide +kernel
theorem dL_law_922 : decode cL_law 922 = .ok (.iaload, 1) := by decide +kernel
theorem dL_law_923 : decode cL_law 923 = .ok (.aload_n 0, 1) := by decide +kernel
theorem dL_law_924 : decode cL_law 924 = .ok (.iload_n 3, 1) := by decide +kernel
theorem dL_law_925 : decode cL_law 925 = .ok (.iconst 3, 1) := by decide +kernel
theorem dL_law_926 : decode cL_law 926 = .ok (.iadd, 1) := by decide +kernel
theorem dL_law_927 : decode cL_law 927 = .ok (.iaload, 1) := by decide +kernel
theorem dL_law_928 : decode cL_law 928 = .ok (.aload_n 0, 1) := by decide +kernel
theorem dL_law_929 : decode cL_law 929 = .ok (.iload_n 3, 1) := by decide +kernel
theorem dL_law_930 : decode cL_law 930 = .ok (.iconst 4, 1) := by decide +kernel
theorem dL_law_931 : decode cL_law 931 = .ok (.iadd, 1) := by decide +kernel
theorem dL_law_932 : decode cL_law 932 = .ok (.iaload, 1) := by decide +kernel
theorem dL_law_933 : decode cL_law 933 = .ok (.ifCond .eq 7, 3) := by decide +kernel
theorem dL_law_936 : decode cL_law 936 = .ok (.iconst 1, 1) := by decide +kernel
theorem dL_law_937 : decode cL_law 937 = .ok (.goto 4, 3) := by decide +kernel
theorem dL_law_940 : decode cL_law 940 = .ok (.iconst 0, 1) := by decide +kernel
theorem dL_law_941 : decode cL_law 941 = .ok (.invokevirtual 118, 3) := by decide +kernel
theorem dL_law_944 : decode cL_law 944 = .ok (.aload_n 2, 1) := by decide +kernel
theorem dL_law_945 : decode cL_law 945 = .ok (.aload_n 0, 1) := by decide +kernel
theorem dL_law_946 : decode cL_law 946 = .ok (.iload_n 3, 1) := by decide +kernel
theorem dL_law_947 : decode cL_law 947 = .ok (.iconst 1, 1) := by decide +kernel
theorem dL_law_948 : decode cL_law 948 = .ok (.iadd, 1) := by decide +kernel
theorem dL_law_949 : decode cL_law 949 = .ok (.iaload, 1) := by decide +kernel
theorem dL_law_950 : decode cL_law 950 = .ok (.aload_n 0, 1) := by decide +kernel
theorem dL_law_951 : decode cL_law 951 = .ok (.iload_n 3, 1) := by decide +kernel
theorem dL_law_952 : decode cL_law 952 = .ok (.iconst 2, 1) := by decide +kernel
theorem dL_law_953 : decode cL_law 953 = .ok (.iadd, 1) := by decide +kernel
theorem dL_law_954 : decode cL_law 954 = .ok (.iaload, 1) := by decide +kernel
theorem dL_law_955 : decode cL_law 955 = .ok (.aload_n 0, 1) := by decide +kernel
theorem dL_law_956 : decode cL_law 956 = .ok (.iload_n 3, 1) := by decide +kernel
theorem dL_law_957 : decode cL_law 957 = .ok (.iconst 3, 1) := by decide +kernel
theorem dL_law_958 : decode cL_law 958 = .ok (.iadd, 1) := by decide +kernel
theorem dL_law_959 : decode cL_law 959 = .ok (.iaload, 1) := by decide +kernel
theorem dL_law_960 : decode cL_law 960 = .ok (.aload_n 0, 1) := by decide +kernel
theorem dL_law_961 : decode cL_law 961 = .ok (.iload_n 3, 1) := by decide +kernel
theorem dL_law_962 : decode cL_law 962 = .ok (.iconst 4, 1) := by decide +kernel
theorem dL_law_963 : decode cL_law 963 = .ok (.iadd, 1) := by decide +kernel
theorem dL_law_964 : decode cL_law 964 = .ok (.iaload, 1) := by decide +kernel
theorem dL_law_965 : decode cL_law 965 = .ok (.ifCond .eq 7, 3) := by decide +kernel
theorem dL_law_968 : decode cL_law 968 = .ok (.iconst 1, 1) := by decide +kernel
theorem dL_law_969 : decode cL_law 969 = .ok (.goto 4, 3) := by decide +kernel
theorem dL_law_972 : decode cL_law 972 = .ok (.iconst 0, 1) := by decide +kernel
theorem dL_law_973 : decode cL_law 973 = .ok (.invokevirtual 122, 3) := by decide +kernel
theorem dL_law_976 : decode cL_law 976 = .ok (.if_icmp .eq 151, 3) := by decide +kernel
theorem dL_law_979 : decode cL_law 979 = .ok (.iconst 0, 1) := by decide +kernel
theorem dL_law_980 : decode cL_law 980 = .ok (.ireturn, 1) := by decide +kernel
theorem dL_law_981 : decode cL_law 981 = .ok (.aload_n 1, 1) := by decide +kernel
theorem dL_law_982 : decode cL_law 982 = .ok (.aload_n 0, 1) := by decide +kernel
theorem dL_law_983 : decode cL_law 983 = .ok (.iload_n 3, 1) := by decide +kernel
theorem dL_law_984 : decode cL_law 984 = .ok (.iconst 1, 1) := by decide +kernel
theorem dL_law_985 : decode cL_law 985 = .ok (.iadd, 1) := by decide +kernel
theorem dL_law_986 : decode cL_law 986 = .ok (.iaload, 1) := by decide +kernel
theorem dL_law_987 : decode cL_law 987 = .ok (.i2l, 1) := by decide +kernel
theorem dL_law_988 : decode cL_law 988 = .ok (.bipush 32, 2) := by decide +kernel
theorem dL_law_990 : decode cL_law 990 = .ok (.lshl, 1) := by decide +kernel
theorem dL_law_991 : decode cL_law 991 = .ok (.aload_n 0, 1) := by decide +kernel
theorem dL_law_992 : decode cL_law 992 = .ok (.iload_n 3, 1) := by decide +kernel
theorem dL_law_993 : decode cL_law 993 = .ok (.iconst 2, 1) := by decide +kernel
theorem dL_law_994 : decode cL_law 994 = .ok (.iadd, 1) := by decide +kernel
theorem dL_law_995 : decode cL_law 995 = .ok (.iaload, 1) := by decide +kernel
theorem dL_law_996 : decode cL_law 996 = .ok (.i2l, 1) := by decide +kernel
theorem dL_law_997 : decode cL_law 997 = .ok (.ldc2_w 94, 3) := by decide +kernel
theorem dL_law_1000 : decode cL_law 1000 = .ok (.land, 1) := by decide +kernel
theorem dL_law_1001 : decode cL_law 1001 = .ok (.lor, 1) := by decide +kernel
theorem dL_law_1002 : decode cL_law 1002 = .ok (.invokevirtual 123, 3) := by decide +kernel
theorem dL_law_1005 : decode cL_law 1005 = .ok (.aload_n 2, 1) := by decide +kernel
theorem dL_law_1006 : decode cL_law 1006 = .ok (.aload_n 0, 1) := by decide +kernel
theorem dL_law_1007 : decode cL_law 1007 = .ok (.iload_n 3, 1) := by decide +kernel
theorem dL_law_1008 : decode cL_law 1008 = .ok (.iconst 1, 1) := by decide +kernel
theorem dL_law_1009 : decode cL_law 1009 = .ok (.iadd, 1) := by decide +kernel
theorem dL_law_1010 : decode cL_law 1010 = .ok (.iaload, 1) := by decide +kernel
theorem dL_law_1011 : decode cL_law 1011 = .ok (.i2l, 1) := by decide +kernel
theorem dL_law_1012 : decode cL_law 1012 = .ok (.bipush 32, 2) := by decide +kernel
theorem dL_law_1014 : decode cL_law 1014 = .ok (.lshl, 1) := by decide +kernel
theorem dL_law_1015 : decode cL_law 1015 = .ok (.aload_n 0, 1) := by decide +kernel
theorem dL_law_1016 : decode cL_law 1016 = .ok (.iload_n 3, 1) := by decide +kernel
theorem dL_law_1017 : decode cL_law 1017 = .ok (.iconst 2, 1) := by decide +kernel
theorem dL_law_1018 : decode cL_law 1018 = .ok (.iadd, 1) := by decide +kernel
theorem dL_law_1019 : decode cL_law 1019 = .ok (.iaload, 1) := by decide +kernel
theorem dL_law_1020 : decode cL_law 1020 = .ok (.i2l, 1) := by decide +kernel
theorem dL_law_1021 : decode cL_law 1021 = .ok (.ldc2_w 94, 3) := by decide +kernel
theorem dL_law_1024 : decode cL_law 1024 = .ok (.land, 1) := by decide +kernel
theorem dL_law_1025 : decode cL_law 1025 = .ok (.lor, 1) := by decide +kernel
theorem dL_law_1026 : decode cL_law 1026 = .ok (.invokevirtual 127, 3) := by decide +kernel
theorem dL_law_1029 : decode cL_law 1029 = .ok (.lcmp, 1) := by decide +kernel
theorem dL_law_1030 : decode cL_law 1030 = .ok (.ifCond .eq 97, 3) := by decide +kernel
theorem dL_law_1033 : decode cL_law 1033 = .ok (.iconst 0, 1) := by decide +kernel
theorem dL_law_1034 : decode cL_law 1034 = .ok (.ireturn, 1) := by decide +kernel
theorem dL_law_1035 : decode cL_law 1035 = .ok (.aload_n 1, 1) := by decide +kernel
theorem dL_law_1036 : decode cL_law 1036 = .ok (.aload_n 0, 1) := by decide +kernel
theorem dL_law_1037 : decode cL_law 1037 = .ok (.iload_n 3, 1) := by decide +kernel
theorem dL_law_1038 : decode cL_law 1038 = .ok (.iconst 1, 1) := by decide +kernel
theorem dL_law_1039 : decode cL_law 1039 = .ok (.iadd, 1) := by decide +kernel
theorem dL_law_1040 : decode cL_law 1040 = .ok (.iaload, 1) := by decide +kernel
theorem dL_law_1041 : decode cL_law 1041 = .ok (.invokevirtual 128, 3) := by decide +kernel
theorem dL_law_1044 : decode cL_law 1044 = .ok (.aload_n 2, 1) := by decide +kernel
theorem dL_law_1045 : decode cL_law 1045 = .ok (.aload_n 0, 1) := by decide +kernel
theorem dL_law_1046 : decode cL_law 1046 = .ok (.iload_n 3, 1) := by decide +kernel
theorem dL_law_1047 : decode cL_law 1047 = .ok (.iconst 1, 1) := by decide +kernel
theorem dL_law_1048 : decode cL_law 1048 = .ok (.iadd, 1) := by decide +kernel
theorem dL_law_1049 : decode cL_law 1049 = .ok (.iaload, 1) := by decide +kernel
theorem dL_law_1050 : decode cL_law 1050 = .ok (.invokevirtual 131, 3) := by decide +kernel
theorem dL_law_1053 : decode cL_law 1053 = .ok (.if_icmp .eq 74, 3) := by decide +kernel
theorem dL_law_1056 : decode cL_law 1056 = .ok (.iconst 0, 1) := by decide +kernel
theorem dL_law_1057 : decode cL_law 1057 = .ok (.ireturn, 1) := by decide +kernel
theorem dL_law_1058 : decode cL_law 1058 = .ok (.aload_n 1, 1) := by decide +kernel
theorem dL_law_1059 : decode cL_law 1059 = .ok (.aload_n 0, 1) := by decide +kernel
theorem dL_law_1060 : decode cL_law 1060 = .ok (.iload_n 3, 1) := by decide +kernel
theorem dL_law_1061 : decode cL_law 1061 = .ok (.iconst 1, 1) := by decide +kernel
theorem dL_law_1062 : decode cL_law 1062 = .ok (.iadd, 1) := by decide +kernel
theorem dL_law_1063 : decode cL_law 1063 = .ok (.iaload, 1) := by decide +kernel
theorem dL_law_1064 : decode cL_law 1064 = .ok (.invokevirtual 132, 3) := by decide +kernel
theorem dL_law_1067 : decode cL_law 1067 = .ok (.aload_n 2, 1) := by decide +kernel
theorem dL_law_1068 : decode cL_law 1068 = .ok (.aload_n 0, 1) := by decide +kernel
theorem dL_law_1069 : decode cL_law 1069 = .ok (.iload_n 3, 1) := by decide +kernel
theorem dL_law_1070 : decode cL_law 1070 = .ok (.iconst 1, 1) := by decide +kernel
theorem dL_law_1071 : decode cL_law 1071 = .ok (.iadd, 1) := by decide +kernel
theorem dL_law_1072 : decode cL_law 1072 = .ok (.iaload, 1) := by decide +kernel
theorem dL_law_1073 : decode cL_law 1073 = .ok (.invokevirtual 135, 3) := by decide +kernel
theorem dL_law_1076 : decode cL_law 1076 = .ok (.if_icmp .eq 51, 3) := by decide +kernel
theorem dL_law_1079 : decode cL_law 1079 = .ok (.iconst 0, 1) := by decide +kernel
theorem dL_law_1080 : decode cL_law 1080 = .ok (.ireturn, 1) := by decide +kernel
theorem dL_law_1081 : decode cL_law 1081 = .ok (.aload_n 1, 1) := by decide +kernel
theorem dL_law_1082 : decode cL_law 1082 = .ok (.aload_n 0, 1) := by decide +kernel
theorem dL_law_1083 : decode cL_law 1083 = .ok (.iload_n 3, 1) := by decide +kernel
theorem dL_law_1084 : decode cL_law 1084 = .ok (.iconst 1, 1) := by decide +kernel
theorem dL_law_1085 : decode cL_law 1085 = .ok (.iadd, 1) := by decide +kernel
theorem dL_law_1086 : decode cL_law 1086 = .ok (.iaload, 1) := by decide +kernel
theorem dL_law_1087 : decode cL_law 1087 = .ok (.invokevirtual 136, 3) := by decide +kernel
theorem dL_law_1090 : decode cL_law 1090 = .ok (.aload_n 2, 1) := by decide +kernel
theorem dL_law_1091 : decode cL_law 1091 = .ok (.aload_n 0, 1) := by decide +kernel
theorem dL_law_1092 : decode cL_law 1092 = .ok (.iload_n 3, 1) := by decide +kernel
theorem dL_law_1093 : decode cL_law 1093 = .ok (.iconst 1, 1) := by decide +kernel
theorem dL_law_1094 : decode cL_law 1094 = .ok (.iadd, 1) := by decide +kernel
theorem dL_law_1095 : decode cL_law 1095 = .ok (.iaload, 1) := by decide +kernel
theorem dL_law_1096 : decode cL_law 1096 = .ok (.invokevirtual 139, 3) := by decide +kernel
theorem dL_law_1099 : decode cL_law 1099 = .ok (.if_icmp .eq 28, 3) := by decide +kernel
theorem dL_law_1102 : decode cL_law 1102 = .ok (.iconst 0, 1) := by decide +kernel
theorem dL_law_1103 : decode cL_law 1103 = .ok (.ireturn, 1) := by decide +kernel
theorem dL_law_1104 : decode cL_law 1104 = .ok (.aload_n 1, 1) := by decide +kernel
theorem dL_law_1105 : decode cL_law 1105 = .ok (.aload_n 0, 1) := by decide +kernel
theorem dL_law_1106 : decode cL_law 1106 = .ok (.iload_n 3, 1) := by decide +kernel
theorem dL_law_1107 : decode cL_law 1107 = .ok (.iconst 1, 1) := by decide +kernel
theorem dL_law_1108 : decode cL_law 1108 = .ok (.iadd, 1) := by decide +kernel
theorem dL_law_1109 : decode cL_law 1109 = .ok (.iaload, 1) := by decide +kernel
theorem dL_law_1110 : decode cL_law 1110 = .ok (.invokevirtual 140, 3) := by decide +kernel
theorem dL_law_1113 : decode cL_law 1113 = .ok (.aload_n 2, 1) := by decide +kernel
theorem dL_law_1114 : decode cL_law 1114 = .ok (.aload_n 0, 1) := by decide +kernel
theorem dL_law_1115 : decode cL_law 1115 = .ok (.iload_n 3, 1) := by decide +kernel
theorem dL_law_1116 : decode cL_law 1116 = .ok (.iconst 1, 1) := by decide +kernel
theorem dL_law_1117 : decode cL_law 1117 = .ok (.iadd, 1) := by decide +kernel
theorem dL_law_1118 : decode cL_law 1118 = .ok (.iaload, 1) := by decide +kernel
theorem dL_law_1119 : decode cL_law 1119 = .ok (.invokevirtual 143, 3) := by decide +kernel
theorem dL_law_1122 : decode cL_law 1122 = .ok (.if_icmp .eq 5, 3) := by decide +kernel
theorem dL_law_1125 : decode cL_law 1125 = .ok (.iconst 0, 1) := by decide +kernel
theorem dL_law_1126 : decode cL_law 1126 = .ok (.ireturn, 1) := by decide +kernel
theorem dL_law_1127 : decode cL_law 1127 = .ok (.iinc 3 5, 3) := by decide +kernel
theorem dL_law_1130 : decode cL_law 1130 = .ok (.goto (-1112), 3) := by decide +kernel
theorem dL_law_1133 : decode cL_law 1133 = .ok (.iconst 1, 1) := by decide +kernel
theorem dL_law_1134 : decode cL_law 1134 = .ok (.ireturn, 1) := by decide +kernel
end

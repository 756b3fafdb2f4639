section
-- ===== PART A: goes FIRST, ahead of the names: the tables' words, and 'selects' of the private methods out of them =====
/-- a private method of a class that the tables say can be made, by its rows of tables_1 -/
def lw_okq (q : MethodName × Nat) : Prop := (q.1.cls ≠ "java/lang/invoke/MethodHandle" ∧ q.1.cls ≠ "java/lang/invoke/VarHandle") ∧ Cond.instantiable q.1.cls q.2 ∈ tables_1 ∧ Cond.privateMethod q.1 ∈ tables_1 ∧ Cond.instanceMethod q.1 ∈ tables_1
theorem lw_p0 : lw_okq (⟨"LoserDraws", "rowOf", "(I)LLoserDraws$Row;"⟩, 10) := ⟨⟨by decide +kernel, by decide +kernel⟩, List.mem_of_getElem? (i := 11) (by decide +kernel), List.mem_of_getElem? (i := 139) (by decide +kernel), List.mem_of_getElem? (i := 140) (by decide +kernel)⟩
theorem lw_p1 : lw_okq (⟨"LoserDraws", "placeOf", "(I)LLoserDraws$Row;"⟩, 10) := ⟨⟨by decide +kernel, by decide +kernel⟩, List.mem_of_getElem? (i := 11) (by decide +kernel), List.mem_of_getElem? (i := 143) (by decide +kernel), List.mem_of_getElem? (i := 144) (by decide +kernel)⟩
theorem lw_p2 : lw_okq (⟨"LoserDraws$Row", "holds", "(II)Z"⟩, 4) := ⟨⟨by decide +kernel, by decide +kernel⟩, List.mem_of_getElem? (i := 76) (by decide +kernel), List.mem_of_getElem? (i := 150) (by decide +kernel), List.mem_of_getElem? (i := 151) (by decide +kernel)⟩
theorem lw_p3 : lw_okq (⟨"LoserDraws", "faulted", "(I)I"⟩, 10) := ⟨⟨by decide +kernel, by decide +kernel⟩, List.mem_of_getElem? (i := 11) (by decide +kernel), List.mem_of_getElem? (i := 154) (by decide +kernel), List.mem_of_getElem? (i := 155) (by decide +kernel)⟩
theorem lw_p4 : lw_okq (⟨"LoserDraws$Row", "at", "(I)I"⟩, 4) := ⟨⟨by decide +kernel, by decide +kernel⟩, List.mem_of_getElem? (i := 76) (by decide +kernel), List.mem_of_getElem? (i := 161) (by decide +kernel), List.mem_of_getElem? (i := 162) (by decide +kernel)⟩
theorem lw_p5 : lw_okq (⟨"LoserDraws", "takeText", "(LLoserDraws$Row;II)V"⟩, 10) := ⟨⟨by decide +kernel, by decide +kernel⟩, List.mem_of_getElem? (i := 11) (by decide +kernel), List.mem_of_getElem? (i := 174) (by decide +kernel), List.mem_of_getElem? (i := 175) (by decide +kernel)⟩
theorem lw_p6 : lw_okq (⟨"LoserDraws", "citizen", "(I)LLoserDraws$Citizen;"⟩, 10) := ⟨⟨by decide +kernel, by decide +kernel⟩, List.mem_of_getElem? (i := 11) (by decide +kernel), List.mem_of_getElem? (i := 188) (by decide +kernel), List.mem_of_getElem? (i := 189) (by decide +kernel)⟩
theorem lw_p7 : lw_okq (⟨"LoserDraws$Citizen", "slips", "()I"⟩, 4) := ⟨⟨by decide +kernel, by decide +kernel⟩, List.mem_of_getElem? (i := 52) (by decide +kernel), List.mem_of_getElem? (i := 200) (by decide +kernel), List.mem_of_getElem? (i := 201) (by decide +kernel)⟩
theorem lw_p8 : lw_okq (⟨"LoserDraws", "slipsAhead", "(I)I"⟩, 10) := ⟨⟨by decide +kernel, by decide +kernel⟩, List.mem_of_getElem? (i := 11) (by decide +kernel), List.mem_of_getElem? (i := 207) (by decide +kernel), List.mem_of_getElem? (i := 208) (by decide +kernel)⟩
theorem lw_p9 : lw_okq (⟨"LoserDraws", "firstWrong", "(LLoserDraws$Row;II)I"⟩, 10) := ⟨⟨by decide +kernel, by decide +kernel⟩, List.mem_of_getElem? (i := 11) (by decide +kernel), List.mem_of_getElem? (i := 227) (by decide +kernel), List.mem_of_getElem? (i := 228) (by decide +kernel)⟩
theorem lw_p10 : lw_okq (⟨"LoserDraws", "ownerOf", "(I)I"⟩, 10) := ⟨⟨by decide +kernel, by decide +kernel⟩, List.mem_of_getElem? (i := 11) (by decide +kernel), List.mem_of_getElem? (i := 231) (by decide +kernel), List.mem_of_getElem? (i := 232) (by decide +kernel)⟩
theorem lw_p11 : lw_okq (⟨"LoserDraws$Row", "has", "(III)Z"⟩, 4) := ⟨⟨by decide +kernel, by decide +kernel⟩, List.mem_of_getElem? (i := 76) (by decide +kernel), List.mem_of_getElem? (i := 235) (by decide +kernel), List.mem_of_getElem? (i := 236) (by decide +kernel)⟩
theorem lw_p12 : lw_okq (⟨"LoserDraws", "rulersBy", "(LLoserDraws$Row;II)I"⟩, 10) := ⟨⟨by decide +kernel, by decide +kernel⟩, List.mem_of_getElem? (i := 11) (by decide +kernel), List.mem_of_getElem? (i := 240) (by decide +kernel), List.mem_of_getElem? (i := 241) (by decide +kernel)⟩
theorem lw_p13 : lw_okq (⟨"LoserDraws", "fillDrum", "()V"⟩, 10) := ⟨⟨by decide +kernel, by decide +kernel⟩, List.mem_of_getElem? (i := 11) (by decide +kernel), List.mem_of_getElem? (i := 244) (by decide +kernel), List.mem_of_getElem? (i := 245) (by decide +kernel)⟩
theorem lw_p14 : lw_okq (⟨"LoserDraws$Drum", "empty", "(II)V"⟩, 7) := ⟨⟨by decide +kernel, by decide +kernel⟩, List.mem_of_getElem? (i := 23) (by decide +kernel), List.mem_of_getElem? (i := 248) (by decide +kernel), List.mem_of_getElem? (i := 249) (by decide +kernel)⟩
theorem lw_p15 : lw_okq (⟨"LoserDraws$Drum", "setDrawn", "(I)V"⟩, 7) := ⟨⟨by decide +kernel, by decide +kernel⟩, List.mem_of_getElem? (i := 23) (by decide +kernel), List.mem_of_getElem? (i := 256) (by decide +kernel), List.mem_of_getElem? (i := 257) (by decide +kernel)⟩
def lw_privs_1 : List (MethodName × Nat) := [(⟨"LoserDraws", "rowOf", "(I)LLoserDraws$Row;"⟩, 10), (⟨"LoserDraws", "placeOf", "(I)LLoserDraws$Row;"⟩, 10), (⟨"LoserDraws$Row", "holds", "(II)Z"⟩, 4), (⟨"LoserDraws", "faulted", "(I)I"⟩, 10), (⟨"LoserDraws$Row", "at", "(I)I"⟩, 4), (⟨"LoserDraws", "takeText", "(LLoserDraws$Row;II)V"⟩, 10), (⟨"LoserDraws", "citizen", "(I)LLoserDraws$Citizen;"⟩, 10), (⟨"LoserDraws$Citizen", "slips", "()I"⟩, 4), (⟨"LoserDraws", "slipsAhead", "(I)I"⟩, 10), (⟨"LoserDraws", "firstWrong", "(LLoserDraws$Row;II)I"⟩, 10), (⟨"LoserDraws", "ownerOf", "(I)I"⟩, 10), (⟨"LoserDraws$Row", "has", "(III)Z"⟩, 4), (⟨"LoserDraws", "rulersBy", "(LLoserDraws$Row;II)I"⟩, 10), (⟨"LoserDraws", "fillDrum", "()V"⟩, 10), (⟨"LoserDraws$Drum", "empty", "(II)V"⟩, 7), (⟨"LoserDraws$Drum", "setDrawn", "(I)V"⟩, 7)]
theorem lw_r1 : ∀ q ∈ lw_privs_1, lw_okq q := List.forall_mem_cons.mpr ⟨lw_p0, List.forall_mem_cons.mpr ⟨lw_p1, List.forall_mem_cons.mpr ⟨lw_p2, List.forall_mem_cons.mpr ⟨lw_p3, List.forall_mem_cons.mpr ⟨lw_p4, List.forall_mem_cons.mpr ⟨lw_p5, List.forall_mem_cons.mpr ⟨lw_p6, List.forall_mem_cons.mpr ⟨lw_p7, List.forall_mem_cons.mpr ⟨lw_p8, List.forall_mem_cons.mpr ⟨lw_p9, List.forall_mem_cons.mpr ⟨lw_p10, List.forall_mem_cons.mpr ⟨lw_p11, List.forall_mem_cons.mpr ⟨lw_p12, List.forall_mem_cons.mpr ⟨lw_p13, List.forall_mem_cons.mpr ⟨lw_p14, List.forall_mem_cons.mpr ⟨lw_p15, fun _ h => absurd h List.not_mem_nil⟩⟩⟩⟩⟩⟩⟩⟩⟩⟩⟩⟩⟩⟩⟩⟩
theorem lw_p16 : lw_okq (⟨"LoserDraws$Drum", "setSlips", "(II)V"⟩, 7) := ⟨⟨by decide +kernel, by decide +kernel⟩, List.mem_of_getElem? (i := 23) (by decide +kernel), List.mem_of_getElem? (i := 260) (by decide +kernel), List.mem_of_getElem? (i := 261) (by decide +kernel)⟩
theorem lw_p17 : lw_okq (⟨"LoserDraws$Drum", "setWishes", "(IZ)V"⟩, 7) := ⟨⟨by decide +kernel, by decide +kernel⟩, List.mem_of_getElem? (i := 23) (by decide +kernel), List.mem_of_getElem? (i := 267) (by decide +kernel), List.mem_of_getElem? (i := 268) (by decide +kernel)⟩
theorem lw_p18 : lw_okq (⟨"LoserDraws$Drum", "passesUnder", "(I)Z"⟩, 7) := ⟨⟨by decide +kernel, by decide +kernel⟩, List.mem_of_getElem? (i := 23) (by decide +kernel), List.mem_of_getElem? (i := 271) (by decide +kernel), List.mem_of_getElem? (i := 272) (by decide +kernel)⟩
theorem lw_p19 : lw_okq (⟨"LoserDraws$Drum", "drawsSparing", "(I)J"⟩, 7) := ⟨⟨by decide +kernel, by decide +kernel⟩, List.mem_of_getElem? (i := 23) (by decide +kernel), List.mem_of_getElem? (i := 289) (by decide +kernel), List.mem_of_getElem? (i := 290) (by decide +kernel)⟩
theorem lw_p20 : lw_okq (⟨"LoserDraws$Drum", "slipsOfOne", "(I)I"⟩, 7) := ⟨⟨by decide +kernel, by decide +kernel⟩, List.mem_of_getElem? (i := 23) (by decide +kernel), List.mem_of_getElem? (i := 293) (by decide +kernel), List.mem_of_getElem? (i := 294) (by decide +kernel)⟩
theorem lw_p21 : lw_okq (⟨"LoserDraws$Drum", "taken", "()I"⟩, 7) := ⟨⟨by decide +kernel, by decide +kernel⟩, List.mem_of_getElem? (i := 23) (by decide +kernel), List.mem_of_getElem? (i := 297) (by decide +kernel), List.mem_of_getElem? (i := 298) (by decide +kernel)⟩
theorem lw_p22 : lw_okq (⟨"LoserDraws$Drum", "draws", "()J"⟩, 7) := ⟨⟨by decide +kernel, by decide +kernel⟩, List.mem_of_getElem? (i := 23) (by decide +kernel), List.mem_of_getElem? (i := 301) (by decide +kernel), List.mem_of_getElem? (i := 302) (by decide +kernel)⟩
theorem lw_p23 : lw_okq (⟨"LoserDraws", "isSet", "(I)Z"⟩, 10) := ⟨⟨by decide +kernel, by decide +kernel⟩, List.mem_of_getElem? (i := 11) (by decide +kernel), List.mem_of_getElem? (i := 312) (by decide +kernel), List.mem_of_getElem? (i := 313) (by decide +kernel)⟩
theorem lw_p24 : lw_okq (⟨"LoserDraws$Drum", "drawsLeavingJust", "(I)J"⟩, 7) := ⟨⟨by decide +kernel, by decide +kernel⟩, List.mem_of_getElem? (i := 23) (by decide +kernel), List.mem_of_getElem? (i := 316) (by decide +kernel), List.mem_of_getElem? (i := 317) (by decide +kernel)⟩
theorem lw_p25 : lw_okq (⟨"LoserDraws$Drum", "countFreeing", "()V"⟩, 7) := ⟨⟨by decide +kernel, by decide +kernel⟩, List.mem_of_getElem? (i := 23) (by decide +kernel), List.mem_of_getElem? (i := 320) (by decide +kernel), List.mem_of_getElem? (i := 321) (by decide +kernel)⟩
theorem lw_p26 : lw_okq (⟨"LoserDraws$Drum", "countFreeingWith", "(II)V"⟩, 7) := ⟨⟨by decide +kernel, by decide +kernel⟩, List.mem_of_getElem? (i := 23) (by decide +kernel), List.mem_of_getElem? (i := 324) (by decide +kernel), List.mem_of_getElem? (i := 325) (by decide +kernel)⟩
theorem lw_p27 : lw_okq (⟨"LoserDraws$Drum", "waysWithLast", "(III)J"⟩, 7) := ⟨⟨by decide +kernel, by decide +kernel⟩, List.mem_of_getElem? (i := 23) (by decide +kernel), List.mem_of_getElem? (i := 328) (by decide +kernel), List.mem_of_getElem? (i := 329) (by decide +kernel)⟩
theorem lw_p28 : lw_okq (⟨"LoserDraws$Drum", "everybody", "()I"⟩, 7) := ⟨⟨by decide +kernel, by decide +kernel⟩, List.mem_of_getElem? (i := 23) (by decide +kernel), List.mem_of_getElem? (i := 332) (by decide +kernel), List.mem_of_getElem? (i := 333) (by decide +kernel)⟩
theorem lw_p29 : lw_okq (⟨"LoserDraws$Drum", "freeingBy", "(II)J"⟩, 7) := ⟨⟨by decide +kernel, by decide +kernel⟩, List.mem_of_getElem? (i := 23) (by decide +kernel), List.mem_of_getElem? (i := 336) (by decide +kernel), List.mem_of_getElem? (i := 337) (by decide +kernel)⟩
theorem lw_p30 : lw_okq (⟨"LoserDraws$Drum", "drawsPassing", "()J"⟩, 7) := ⟨⟨by decide +kernel, by decide +kernel⟩, List.mem_of_getElem? (i := 23) (by decide +kernel), List.mem_of_getElem? (i := 348) (by decide +kernel), List.mem_of_getElem? (i := 349) (by decide +kernel)⟩
theorem lw_p31 : lw_okq (⟨"LoserDraws$Drum", "passesByHalf", "()Z"⟩, 7) := ⟨⟨by decide +kernel, by decide +kernel⟩, List.mem_of_getElem? (i := 23) (by decide +kernel), List.mem_of_getElem? (i := 369) (by decide +kernel), List.mem_of_getElem? (i := 370) (by decide +kernel)⟩
def lw_privs_2 : List (MethodName × Nat) := [(⟨"LoserDraws$Drum", "setSlips", "(II)V"⟩, 7), (⟨"LoserDraws$Drum", "setWishes", "(IZ)V"⟩, 7), (⟨"LoserDraws$Drum", "passesUnder", "(I)Z"⟩, 7), (⟨"LoserDraws$Drum", "drawsSparing", "(I)J"⟩, 7), (⟨"LoserDraws$Drum", "slipsOfOne", "(I)I"⟩, 7), (⟨"LoserDraws$Drum", "taken", "()I"⟩, 7), (⟨"LoserDraws$Drum", "draws", "()J"⟩, 7), (⟨"LoserDraws", "isSet", "(I)Z"⟩, 10), (⟨"LoserDraws$Drum", "drawsLeavingJust", "(I)J"⟩, 7), (⟨"LoserDraws$Drum", "countFreeing", "()V"⟩, 7), (⟨"LoserDraws$Drum", "countFreeingWith", "(II)V"⟩, 7), (⟨"LoserDraws$Drum", "waysWithLast", "(III)J"⟩, 7), (⟨"LoserDraws$Drum", "everybody", "()I"⟩, 7), (⟨"LoserDraws$Drum", "freeingBy", "(II)J"⟩, 7), (⟨"LoserDraws$Drum", "drawsPassing", "()J"⟩, 7), (⟨"LoserDraws$Drum", "passesByHalf", "()Z"⟩, 7)]
theorem lw_r2 : ∀ q ∈ lw_privs_2, lw_okq q := List.forall_mem_cons.mpr ⟨lw_p16, List.forall_mem_cons.mpr ⟨lw_p17, List.forall_mem_cons.mpr ⟨lw_p18, List.forall_mem_cons.mpr ⟨lw_p19, List.forall_mem_cons.mpr ⟨lw_p20, List.forall_mem_cons.mpr ⟨lw_p21, List.forall_mem_cons.mpr ⟨lw_p22, List.forall_mem_cons.mpr ⟨lw_p23, List.forall_mem_cons.mpr ⟨lw_p24, List.forall_mem_cons.mpr ⟨lw_p25, List.forall_mem_cons.mpr ⟨lw_p26, List.forall_mem_cons.mpr ⟨lw_p27, List.forall_mem_cons.mpr ⟨lw_p28, List.forall_mem_cons.mpr ⟨lw_p29, List.forall_mem_cons.mpr ⟨lw_p30, List.forall_mem_cons.mpr ⟨lw_p31, fun _ h => absurd h List.not_mem_nil⟩⟩⟩⟩⟩⟩⟩⟩⟩⟩⟩⟩⟩⟩⟩⟩
theorem lw_p32 : lw_okq (⟨"LoserDraws", "allReadingsCanBe", "()Z"⟩, 10) := ⟨⟨by decide +kernel, by decide +kernel⟩, List.mem_of_getElem? (i := 11) (by decide +kernel), List.mem_of_getElem? (i := 388) (by decide +kernel), List.mem_of_getElem? (i := 389) (by decide +kernel)⟩
theorem lw_p33 : lw_okq (⟨"LoserDraws$Drum", "canLeaveJust", "(I)Z"⟩, 7) := ⟨⟨by decide +kernel, by decide +kernel⟩, List.mem_of_getElem? (i := 23) (by decide +kernel), List.mem_of_getElem? (i := 392) (by decide +kernel), List.mem_of_getElem? (i := 393) (by decide +kernel)⟩
theorem lw_p34 : lw_okq (⟨"LoserDraws$Row", "begin", "(II)V"⟩, 4) := ⟨⟨by decide +kernel, by decide +kernel⟩, List.mem_of_getElem? (i := 76) (by decide +kernel), List.mem_of_getElem? (i := 409) (by decide +kernel), List.mem_of_getElem? (i := 410) (by decide +kernel)⟩
theorem lw_p35 : lw_okq (⟨"LoserDraws$Row", "end", "()V"⟩, 4) := ⟨⟨by decide +kernel, by decide +kernel⟩, List.mem_of_getElem? (i := 76) (by decide +kernel), List.mem_of_getElem? (i := 419) (by decide +kernel), List.mem_of_getElem? (i := 420) (by decide +kernel)⟩
theorem lw_p36 : lw_okq (⟨"LoserDraws$Row", "set", "(II)V"⟩, 4) := ⟨⟨by decide +kernel, by decide +kernel⟩, List.mem_of_getElem? (i := 76) (by decide +kernel), List.mem_of_getElem? (i := 427) (by decide +kernel), List.mem_of_getElem? (i := 428) (by decide +kernel)⟩
theorem lw_p37 : lw_okq (⟨"LoserDraws$Row", "cut", "(I)I"⟩, 4) := ⟨⟨by decide +kernel, by decide +kernel⟩, List.mem_of_getElem? (i := 76) (by decide +kernel), List.mem_of_getElem? (i := 431) (by decide +kernel), List.mem_of_getElem? (i := 432) (by decide +kernel)⟩
theorem lw_p38 : lw_okq (⟨"LoserDraws", "miserTells", "(I)I"⟩, 10) := ⟨⟨by decide +kernel, by decide +kernel⟩, List.mem_of_getElem? (i := 11) (by decide +kernel), List.mem_of_getElem? (i := 450) (by decide +kernel), List.mem_of_getElem? (i := 451) (by decide +kernel)⟩
theorem lw_p39 : lw_okq (⟨"LoserDraws", "leaveInTrace", "(I)V"⟩, 10) := ⟨⟨by decide +kernel, by decide +kernel⟩, List.mem_of_getElem? (i := 11) (by decide +kernel), List.mem_of_getElem? (i := 454) (by decide +kernel), List.mem_of_getElem? (i := 455) (by decide +kernel)⟩
theorem lw_p40 : lw_okq (⟨"LoserDraws", "richTells", "(I)I"⟩, 10) := ⟨⟨by decide +kernel, by decide +kernel⟩, List.mem_of_getElem? (i := 11) (by decide +kernel), List.mem_of_getElem? (i := 458) (by decide +kernel), List.mem_of_getElem? (i := 459) (by decide +kernel)⟩
theorem lw_p41 : lw_okq (⟨"LoserDraws", "citizenTells", "(I)I"⟩, 10) := ⟨⟨by decide +kernel, by decide +kernel⟩, List.mem_of_getElem? (i := 11) (by decide +kernel), List.mem_of_getElem? (i := 462) (by decide +kernel), List.mem_of_getElem? (i := 463) (by decide +kernel)⟩
theorem lw_p42 : lw_okq (⟨"LoserDrawsModel", "refused", "(I)I"⟩, 24) := ⟨⟨by decide +kernel, by decide +kernel⟩, List.mem_of_getElem? (i := 486) (by decide +kernel), List.mem_of_getElem? (i := 576) (by decide +kernel), List.mem_of_getElem? (i := 577) (by decide +kernel)⟩
theorem lw_p43 : lw_okq (⟨"LoserDrawsModel", "cellsBarred", "(IIIJ)I"⟩, 24) := ⟨⟨by decide +kernel, by decide +kernel⟩, List.mem_of_getElem? (i := 486) (by decide +kernel), List.mem_of_getElem? (i := 581) (by decide +kernel), List.mem_of_getElem? (i := 582) (by decide +kernel)⟩
theorem lw_p44 : lw_okq (⟨"LoserDrawsModel", "failed", "(I)I"⟩, 24) := ⟨⟨by decide +kernel, by decide +kernel⟩, List.mem_of_getElem? (i := 486) (by decide +kernel), List.mem_of_getElem? (i := 585) (by decide +kernel), List.mem_of_getElem? (i := 586) (by decide +kernel)⟩
theorem lw_p45 : lw_okq (⟨"LoserDrawsModel", "readsRepublic", "(II)Z"⟩, 24) := ⟨⟨by decide +kernel, by decide +kernel⟩, List.mem_of_getElem? (i := 486) (by decide +kernel), List.mem_of_getElem? (i := 592) (by decide +kernel), List.mem_of_getElem? (i := 593) (by decide +kernel)⟩
theorem lw_p46 : lw_okq (⟨"LoserDrawsModel", "codeAt", "(II)I"⟩, 24) := ⟨⟨by decide +kernel, by decide +kernel⟩, List.mem_of_getElem? (i := 486) (by decide +kernel), List.mem_of_getElem? (i := 596) (by decide +kernel), List.mem_of_getElem? (i := 597) (by decide +kernel)⟩
theorem lw_p47 : lw_okq (⟨"LoserDrawsModel", "figure", "(IIII)I"⟩, 24) := ⟨⟨by decide +kernel, by decide +kernel⟩, List.mem_of_getElem? (i := 486) (by decide +kernel), List.mem_of_getElem? (i := 600) (by decide +kernel), List.mem_of_getElem? (i := 601) (by decide +kernel)⟩
def lw_privs_3 : List (MethodName × Nat) := [(⟨"LoserDraws", "allReadingsCanBe", "()Z"⟩, 10), (⟨"LoserDraws$Drum", "canLeaveJust", "(I)Z"⟩, 7), (⟨"LoserDraws$Row", "begin", "(II)V"⟩, 4), (⟨"LoserDraws$Row", "end", "()V"⟩, 4), (⟨"LoserDraws$Row", "set", "(II)V"⟩, 4), (⟨"LoserDraws$Row", "cut", "(I)I"⟩, 4), (⟨"LoserDraws", "miserTells", "(I)I"⟩, 10), (⟨"LoserDraws", "leaveInTrace", "(I)V"⟩, 10), (⟨"LoserDraws", "richTells", "(I)I"⟩, 10), (⟨"LoserDraws", "citizenTells", "(I)I"⟩, 10), (⟨"LoserDrawsModel", "refused", "(I)I"⟩, 24), (⟨"LoserDrawsModel", "cellsBarred", "(IIIJ)I"⟩, 24), (⟨"LoserDrawsModel", "failed", "(I)I"⟩, 24), (⟨"LoserDrawsModel", "readsRepublic", "(II)Z"⟩, 24), (⟨"LoserDrawsModel", "codeAt", "(II)I"⟩, 24), (⟨"LoserDrawsModel", "figure", "(IIII)I"⟩, 24)]
theorem lw_r3 : ∀ q ∈ lw_privs_3, lw_okq q := List.forall_mem_cons.mpr ⟨lw_p32, List.forall_mem_cons.mpr ⟨lw_p33, List.forall_mem_cons.mpr ⟨lw_p34, List.forall_mem_cons.mpr ⟨lw_p35, List.forall_mem_cons.mpr ⟨lw_p36, List.forall_mem_cons.mpr ⟨lw_p37, List.forall_mem_cons.mpr ⟨lw_p38, List.forall_mem_cons.mpr ⟨lw_p39, List.forall_mem_cons.mpr ⟨lw_p40, List.forall_mem_cons.mpr ⟨lw_p41, List.forall_mem_cons.mpr ⟨lw_p42, List.forall_mem_cons.mpr ⟨lw_p43, List.forall_mem_cons.mpr ⟨lw_p44, List.forall_mem_cons.mpr ⟨lw_p45, List.forall_mem_cons.mpr ⟨lw_p46, List.forall_mem_cons.mpr ⟨lw_p47, fun _ h => absurd h List.not_mem_nil⟩⟩⟩⟩⟩⟩⟩⟩⟩⟩⟩⟩⟩⟩⟩⟩
theorem lw_p48 : lw_okq (⟨"LoserDrawsModel", "readsCitizen", "(II)Z"⟩, 24) := ⟨⟨by decide +kernel, by decide +kernel⟩, List.mem_of_getElem? (i := 486) (by decide +kernel), List.mem_of_getElem? (i := 604) (by decide +kernel), List.mem_of_getElem? (i := 605) (by decide +kernel)⟩
theorem lw_p49 : lw_okq (⟨"LoserDrawsModel", "noCitizen", "(I)Z"⟩, 24) := ⟨⟨by decide +kernel, by decide +kernel⟩, List.mem_of_getElem? (i := 486) (by decide +kernel), List.mem_of_getElem? (i := 612) (by decide +kernel), List.mem_of_getElem? (i := 613) (by decide +kernel)⟩
theorem lw_p50 : lw_okq (⟨"LoserDrawsModel", "slipsOf", "(I)I"⟩, 24) := ⟨⟨by decide +kernel, by decide +kernel⟩, List.mem_of_getElem? (i := 486) (by decide +kernel), List.mem_of_getElem? (i := 619) (by decide +kernel), List.mem_of_getElem? (i := 620) (by decide +kernel)⟩
theorem lw_p51 : lw_okq (⟨"LoserDrawsModel", "slipsOfAll", "(I)I"⟩, 24) := ⟨⟨by decide +kernel, by decide +kernel⟩, List.mem_of_getElem? (i := 486) (by decide +kernel), List.mem_of_getElem? (i := 623) (by decide +kernel), List.mem_of_getElem? (i := 624) (by decide +kernel)⟩
theorem lw_p52 : lw_okq (⟨"LoserDrawsModel", "everybody", "()I"⟩, 24) := ⟨⟨by decide +kernel, by decide +kernel⟩, List.mem_of_getElem? (i := 486) (by decide +kernel), List.mem_of_getElem? (i := 646) (by decide +kernel), List.mem_of_getElem? (i := 647) (by decide +kernel)⟩
theorem lw_p53 : lw_okq (⟨"LoserDrawsModel", "freeBy", "(II)I"⟩, 24) := ⟨⟨by decide +kernel, by decide +kernel⟩, List.mem_of_getElem? (i := 486) (by decide +kernel), List.mem_of_getElem? (i := 650) (by decide +kernel), List.mem_of_getElem? (i := 651) (by decide +kernel)⟩
theorem lw_p54 : lw_okq (⟨"LoserDrawsModel", "ownerOf", "(I)I"⟩, 24) := ⟨⟨by decide +kernel, by decide +kernel⟩, List.mem_of_getElem? (i := 486) (by decide +kernel), List.mem_of_getElem? (i := 654) (by decide +kernel), List.mem_of_getElem? (i := 655) (by decide +kernel)⟩
theorem lw_p55 : lw_okq (⟨"LoserDrawsModel", "doesPass", "(I)Z"⟩, 24) := ⟨⟨by decide +kernel, by decide +kernel⟩, List.mem_of_getElem? (i := 486) (by decide +kernel), List.mem_of_getElem? (i := 658) (by decide +kernel), List.mem_of_getElem? (i := 659) (by decide +kernel)⟩
theorem lw_p56 : lw_okq (⟨"LoserDrawsModel", "drawsWithout", "(I)J"⟩, 24) := ⟨⟨by decide +kernel, by decide +kernel⟩, List.mem_of_getElem? (i := 486) (by decide +kernel), List.mem_of_getElem? (i := 673) (by decide +kernel), List.mem_of_getElem? (i := 674) (by decide +kernel)⟩
theorem lw_p57 : lw_okq (⟨"LoserDrawsModel", "drawnOf", "(I)I"⟩, 24) := ⟨⟨by decide +kernel, by decide +kernel⟩, List.mem_of_getElem? (i := 486) (by decide +kernel), List.mem_of_getElem? (i := 677) (by decide +kernel), List.mem_of_getElem? (i := 678) (by decide +kernel)⟩
theorem lw_p58 : lw_okq (⟨"LoserDrawsModel", "allDraws", "()J"⟩, 24) := ⟨⟨by decide +kernel, by decide +kernel⟩, List.mem_of_getElem? (i := 486) (by decide +kernel), List.mem_of_getElem? (i := 684) (by decide +kernel), List.mem_of_getElem? (i := 685) (by decide +kernel)⟩
theorem lw_p59 : lw_okq (⟨"LoserDrawsModel", "drawsOf", "(I)J"⟩, 24) := ⟨⟨by decide +kernel, by decide +kernel⟩, List.mem_of_getElem? (i := 486) (by decide +kernel), List.mem_of_getElem? (i := 695) (by decide +kernel), List.mem_of_getElem? (i := 696) (by decide +kernel)⟩
theorem lw_p60 : lw_okq (⟨"LoserDrawsModel", "passingDraws", "()J"⟩, 24) := ⟨⟨by decide +kernel, by decide +kernel⟩, List.mem_of_getElem? (i := 486) (by decide +kernel), List.mem_of_getElem? (i := 707) (by decide +kernel), List.mem_of_getElem? (i := 708) (by decide +kernel)⟩
theorem lw_p61 : lw_okq (⟨"LoserDrawsModel", "isLikely", "()Z"⟩, 24) := ⟨⟨by decide +kernel, by decide +kernel⟩, List.mem_of_getElem? (i := 486) (by decide +kernel), List.mem_of_getElem? (i := 727) (by decide +kernel), List.mem_of_getElem? (i := 728) (by decide +kernel)⟩
theorem lw_p62 : lw_okq (⟨"LoserDrawsModel", "canBe", "()Z"⟩, 24) := ⟨⟨by decide +kernel, by decide +kernel⟩, List.mem_of_getElem? (i := 486) (by decide +kernel), List.mem_of_getElem? (i := 743) (by decide +kernel), List.mem_of_getElem? (i := 744) (by decide +kernel)⟩
theorem lw_p63 : lw_okq (⟨"LoserDrawsModel", "noCell", "(II)I"⟩, 24) := ⟨⟨by decide +kernel, by decide +kernel⟩, List.mem_of_getElem? (i := 486) (by decide +kernel), List.mem_of_getElem? (i := 767) (by decide +kernel), List.mem_of_getElem? (i := 768) (by decide +kernel)⟩
def lw_privs_4 : List (MethodName × Nat) := [(⟨"LoserDrawsModel", "readsCitizen", "(II)Z"⟩, 24), (⟨"LoserDrawsModel", "noCitizen", "(I)Z"⟩, 24), (⟨"LoserDrawsModel", "slipsOf", "(I)I"⟩, 24), (⟨"LoserDrawsModel", "slipsOfAll", "(I)I"⟩, 24), (⟨"LoserDrawsModel", "everybody", "()I"⟩, 24), (⟨"LoserDrawsModel", "freeBy", "(II)I"⟩, 24), (⟨"LoserDrawsModel", "ownerOf", "(I)I"⟩, 24), (⟨"LoserDrawsModel", "doesPass", "(I)Z"⟩, 24), (⟨"LoserDrawsModel", "drawsWithout", "(I)J"⟩, 24), (⟨"LoserDrawsModel", "drawnOf", "(I)I"⟩, 24), (⟨"LoserDrawsModel", "allDraws", "()J"⟩, 24), (⟨"LoserDrawsModel", "drawsOf", "(I)J"⟩, 24), (⟨"LoserDrawsModel", "passingDraws", "()J"⟩, 24), (⟨"LoserDrawsModel", "isLikely", "()Z"⟩, 24), (⟨"LoserDrawsModel", "canBe", "()Z"⟩, 24), (⟨"LoserDrawsModel", "noCell", "(II)I"⟩, 24)]
theorem lw_r4 : ∀ q ∈ lw_privs_4, lw_okq q := List.forall_mem_cons.mpr ⟨lw_p48, List.forall_mem_cons.mpr ⟨lw_p49, List.forall_mem_cons.mpr ⟨lw_p50, List.forall_mem_cons.mpr ⟨lw_p51, List.forall_mem_cons.mpr ⟨lw_p52, List.forall_mem_cons.mpr ⟨lw_p53, List.forall_mem_cons.mpr ⟨lw_p54, List.forall_mem_cons.mpr ⟨lw_p55, List.forall_mem_cons.mpr ⟨lw_p56, List.forall_mem_cons.mpr ⟨lw_p57, List.forall_mem_cons.mpr ⟨lw_p58, List.forall_mem_cons.mpr ⟨lw_p59, List.forall_mem_cons.mpr ⟨lw_p60, List.forall_mem_cons.mpr ⟨lw_p61, List.forall_mem_cons.mpr ⟨lw_p62, List.forall_mem_cons.mpr ⟨lw_p63, fun _ h => absurd h List.not_mem_nil⟩⟩⟩⟩⟩⟩⟩⟩⟩⟩⟩⟩⟩⟩⟩⟩
theorem lw_p64 : lw_okq (⟨"LoserDrawsModel", "failedLong", "(I)J"⟩, 24) := ⟨⟨by decide +kernel, by decide +kernel⟩, List.mem_of_getElem? (i := 486) (by decide +kernel), List.mem_of_getElem? (i := 775) (by decide +kernel), List.mem_of_getElem? (i := 776) (by decide +kernel)⟩
theorem lw_p65 : lw_okq (⟨"LoserDrawsModel", "traced", "(I)V"⟩, 24) := ⟨⟨by decide +kernel, by decide +kernel⟩, List.mem_of_getElem? (i := 486) (by decide +kernel), List.mem_of_getElem? (i := 787) (by decide +kernel), List.mem_of_getElem? (i := 788) (by decide +kernel)⟩
def lw_privs_5 : List (MethodName × Nat) := [(⟨"LoserDrawsModel", "failedLong", "(I)J"⟩, 24), (⟨"LoserDrawsModel", "traced", "(I)V"⟩, 24)]
theorem lw_r5 : ∀ q ∈ lw_privs_5, lw_okq q := List.forall_mem_cons.mpr ⟨lw_p64, List.forall_mem_cons.mpr ⟨lw_p65, fun _ h => absurd h List.not_mem_nil⟩⟩
def lw_privs : List (MethodName × Nat) := lw_privs_1 ++ (lw_privs_2 ++ (lw_privs_3 ++ (lw_privs_4 ++ (lw_privs_5))))
def lw_tbl : List Cond := k2_sels lw_privs ++ tables_1
theorem lw_privs_ok : ∀ q ∈ lw_privs, lw_okq q := by
  show ∀ q ∈ lw_privs_1 ++ (lw_privs_2 ++ (lw_privs_3 ++ (lw_privs_4 ++ (lw_privs_5)))), lw_okq q
  exact List.forall_mem_append.mpr ⟨lw_r1, List.forall_mem_append.mpr ⟨lw_r2, List.forall_mem_append.mpr ⟨lw_r3, List.forall_mem_append.mpr ⟨lw_r4, lw_r5⟩⟩⟩⟩
end
section
/-! ===== BEGIN words of one list among another's, by their places ===== -/
theorem goodIn_r {big : List Cond} (ws : List Cond) (ps : List Nat) (hp : ws = ps.filterMap (fun i => big[i]?)) (h : ws.all goodWord = true) : GoodIn big ws := by
  intro w hw
  have h1 := List.all_eq_true.mp h w hw
  rw [hp] at hw
  obtain ⟨i, -, hi⟩ := List.mem_filterMap.mp hw
  have hm : w ∈ big := by first | exact List.mem_of_getElem? hi | exact List.getElem?_mem hi
  exact ⟨hm, good_of_word h1⟩
theorem goodIn_app {big a b : List Cond} (ha : GoodIn big a) (hb : GoodIn big b) : GoodIn big (a ++ b) := fun w h => (List.mem_append.mp h).elim (ha w) (hb w)
theorem goodIn_ca {big a b : List Cond} {c : Cond} (ha : GoodIn big (c :: a)) (hb : GoodIn big b) : GoodIn big (c :: (a ++ b)) := fun w h => (List.mem_cons.mp h).elim (fun e => ha w (List.mem_cons.mpr (Or.inl e))) (fun h => (List.mem_append.mp h).elim (fun h => ha w (List.mem_cons.mpr (Or.inr h))) (hb w))
theorem goodIn_sub {big ws : List Cond} (hm : ∀ w ∈ ws, w ∈ big) (h : ws.all goodWord = true) : GoodIn big ws := fun w hw => ⟨hm w hw, good_of_word (List.all_eq_true.mp h w hw)⟩
/-! ===== END ===== -/

/-! ===== BEGIN printed: names, fields, word lists, decode rows ===== -/
def RX0 : String := "LoserDraws$Citizen"
def TX0 : u_T := fun k => match k with
  | 0 => ("LoserDraws$Citizen", "kind", "I", false)
  | 1 => ("LoserDraws$Citizen", "tickets", "I", false)
  | 2 => ("LoserDraws$Citizen", "geese", "I", false)
  | _ => ("LoserDraws$Citizen", "wishes", "Z", false)
def tyX0 : Nat → FieldType := fun k => match k with
  | 0 => .int
  | 1 => .int
  | 2 => .int
  | _ => .boolean
abbrev wsX00 : List Cond := u_ws RX0 TX0 4
theorem nmX0 : ∀ a, a < 4 → ∀ b, b < 4 → a ≠ b → (TX0 a).2.1 ≠ (TX0 b).2.1 := by decide +kernel
theorem tyX0_ok : ∀ k, k < 4 → parseFieldDescriptor (TX0 k).2.2.1 = some (tyX0 k) := by decide +kernel
abbrev cX0_init : ByteArray := prog_2_method_1_code
def yX0_init : MethodName := ⟨RX0, "<init>", "()V"⟩
abbrev cX0_slips : ByteArray := prog_2_method_2_code
def yX0_slips : MethodName := ⟨RX0, "slips", "()I"⟩
def RX1 : String := "LoserDraws$Drum"
def TX1 : u_T := fun k => match k with
  | 0 => ("LoserDraws$Drum", "slips", "[I", true)
  | 1 => ("LoserDraws$Drum", "picks", "[J", true)
  | 2 => ("LoserDraws$Drum", "freeing", "[J", true)
  | 3 => ("LoserDraws$Drum", "people", "I", false)
  | 4 => ("LoserDraws$Drum", "wishers", "I", false)
  | 5 => ("LoserDraws$Drum", "drawn", "I", false)
  | _ => ("LoserDraws$Drum", "total", "I", false)
def tyX1 : Nat → FieldType := fun k => match k with
  | 0 => .array .int
  | 1 => .array .long
  | 2 => .array .long
  | 3 => .int
  | 4 => .int
  | 5 => .int
  | _ => .int
abbrev wsX10 : List Cond := u_ws RX1 TX1 7
theorem nmX1 : ∀ a, a < 7 → ∀ b, b < 7 → a ≠ b → (TX1 a).2.1 ≠ (TX1 b).2.1 := by decide +kernel
theorem tyX1_ok : ∀ k, k < 7 → parseFieldDescriptor (TX1 k).2.2.1 = some (tyX1 k) := by decide +kernel
abbrev cX1_init : ByteArray := prog_3_method_1_code
def yX1_init : MethodName := ⟨RX1, "<init>", "()V"⟩
abbrev cX1_empty : ByteArray := prog_3_method_2_code
def yX1_empty : MethodName := ⟨RX1, "empty", "(II)V"⟩
abbrev cX1_setDrawn : ByteArray := prog_3_method_3_code
def yX1_setDrawn : MethodName := ⟨RX1, "setDrawn", "(I)V"⟩
abbrev cX1_setSlips : ByteArray := prog_3_method_4_code
def yX1_setSlips : MethodName := ⟨RX1, "setSlips", "(II)V"⟩
abbrev cX1_setWishes : ByteArray := prog_3_method_5_code
def yX1_setWishes : MethodName := ⟨RX1, "setWishes", "(IZ)V"⟩
abbrev cX1_slipsOfOne : ByteArray := prog_3_method_6_code
def yX1_slipsOfOne : MethodName := ⟨RX1, "slipsOfOne", "(I)I"⟩
abbrev cX1_taken : ByteArray := prog_3_method_7_code
def yX1_taken : MethodName := ⟨RX1, "taken", "()I"⟩
abbrev cX1_draws : ByteArray := prog_3_method_8_code
def yX1_draws : MethodName := ⟨RX1, "draws", "()J"⟩
abbrev cX1_drawsSparing : ByteArray := prog_3_method_9_code
def yX1_drawsSparing : MethodName := ⟨RX1, "drawsSparing", "(I)J"⟩
abbrev cX1_drawsLeavingJust : ByteArray := prog_3_method_10_code
def yX1_drawsLeavingJust : MethodName := ⟨RX1, "drawsLeavingJust", "(I)J"⟩
abbrev cX1_drawsPassing : ByteArray := prog_3_method_11_code
def yX1_drawsPassing : MethodName := ⟨RX1, "drawsPassing", "()J"⟩
abbrev cX1_passesUnder : ByteArray := prog_3_method_12_code
def yX1_passesUnder : MethodName := ⟨RX1, "passesUnder", "(I)Z"⟩
abbrev cX1_passesByHalf : ByteArray := prog_3_method_13_code
def yX1_passesByHalf : MethodName := ⟨RX1, "passesByHalf", "()Z"⟩
abbrev cX1_canLeaveJust : ByteArray := prog_3_method_14_code
def yX1_canLeaveJust : MethodName := ⟨RX1, "canLeaveJust", "(I)Z"⟩
abbrev cX1_everybody : ByteArray := prog_3_method_15_code
def yX1_everybody : MethodName := ⟨RX1, "everybody", "()I"⟩
abbrev cX1_freeingBy : ByteArray := prog_3_method_16_code
def yX1_freeingBy : MethodName := ⟨RX1, "freeingBy", "(II)J"⟩
abbrev cX1_countFreeing : ByteArray := prog_3_method_17_code
def yX1_countFreeing : MethodName := ⟨RX1, "countFreeing", "()V"⟩
abbrev cX1_countFreeingWith : ByteArray := prog_3_method_18_code
def yX1_countFreeingWith : MethodName := ⟨RX1, "countFreeingWith", "(II)V"⟩
abbrev cX1_waysWithLast : ByteArray := prog_3_method_19_code
def yX1_waysWithLast : MethodName := ⟨RX1, "waysWithLast", "(III)J"⟩
abbrev cX1_choose : ByteArray := prog_3_method_20_code
def yX1_choose : MethodName := ⟨RX1, "choose", "(II)J"⟩
def RX2 : String := "LoserDraws$Row"
def TX2 : u_T := fun k => match k with
  | 0 => ("LoserDraws$Row", "cells", "[I", true)
  | 1 => ("LoserDraws$Row", "isThere", "Z", false)
  | 2 => ("LoserDraws$Row", "lane", "I", false)
  | _ => ("LoserDraws$Row", "length", "I", false)
def tyX2 : Nat → FieldType := fun k => match k with
  | 0 => .array .int
  | 1 => .boolean
  | 2 => .int
  | _ => .int
abbrev wsX20 : List Cond := u_ws RX2 TX2 4
theorem nmX2 : ∀ a, a < 4 → ∀ b, b < 4 → a ≠ b → (TX2 a).2.1 ≠ (TX2 b).2.1 := by decide +kernel
theorem tyX2_ok : ∀ k, k < 4 → parseFieldDescriptor (TX2 k).2.2.1 = some (tyX2 k) := by decide +kernel
abbrev cX2_init : ByteArray := prog_4_method_1_code
def yX2_init : MethodName := ⟨RX2, "<init>", "()V"⟩
abbrev cX2_begin : ByteArray := prog_4_method_2_code
def yX2_begin : MethodName := ⟨RX2, "begin", "(II)V"⟩
abbrev cX2_end : ByteArray := prog_4_method_3_code
def yX2_end : MethodName := ⟨RX2, "end", "()V"⟩
abbrev cX2_holds : ByteArray := prog_4_method_4_code
def yX2_holds : MethodName := ⟨RX2, "holds", "(II)Z"⟩
abbrev cX2_at : ByteArray := prog_4_method_5_code
def yX2_at : MethodName := ⟨RX2, "at", "(I)I"⟩
abbrev cX2_set : ByteArray := prog_4_method_6_code
def yX2_set : MethodName := ⟨RX2, "set", "(II)V"⟩
abbrev cX2_cut : ByteArray := prog_4_method_7_code
def yX2_cut : MethodName := ⟨RX2, "cut", "(I)I"⟩
abbrev cX2_has : ByteArray := prog_4_method_8_code
def yX2_has : MethodName := ⟨RX2, "has", "(III)Z"⟩
def RX3 : String := "LoserDraws$Text"
def TX3 : u_T := fun k => match k with
  | _ => ("", "", "", false)
def tyX3 : Nat → FieldType := fun k => match k with
  | _ => .int
abbrev wsX30 : List Cond := u_ws RX3 TX3 0
theorem nmX3 : ∀ a, a < 0 → ∀ b, b < 0 → a ≠ b → (TX3 a).2.1 ≠ (TX3 b).2.1 := by decide +kernel
theorem tyX3_ok : ∀ k, k < 0 → parseFieldDescriptor (TX3 k).2.2.1 = some (tyX3 k) := by decide +kernel
abbrev cX3_firstFault : ByteArray := prog_5_method_2_code
def yX3_firstFault : MethodName := ⟨RX3, "firstFault", "(LLoserDraws$Row;II)I"⟩
abbrev cX3_goesOnWith : ByteArray := prog_5_method_3_code
def yX3_goesOnWith : MethodName := ⟨RX3, "goesOnWith", "(II)Z"⟩
abbrev cX3_citizenGoesOnWith : ByteArray := prog_5_method_4_code
def yX3_citizenGoesOnWith : MethodName := ⟨RX3, "citizenGoesOnWith", "(II)Z"⟩
abbrev cX3_isDigit : ByteArray := prog_5_method_5_code
def yX3_isDigit : MethodName := ⟨RX3, "isDigit", "(III)Z"⟩
abbrev cX3_digit : ByteArray := prog_5_method_6_code
def yX3_digit : MethodName := ⟨RX3, "digit", "(I)I"⟩
abbrev cX3_citizensIn : ByteArray := prog_5_method_7_code
def yX3_citizensIn : MethodName := ⟨RX3, "citizensIn", "(I)I"⟩
abbrev cX3_tellCitizen : ByteArray := prog_5_method_8_code
def yX3_tellCitizen : MethodName := ⟨RX3, "tellCitizen", "(LLoserDraws$Row;ILLoserDraws$Citizen;)V"⟩
def RX4 : String := "LoserDraws"
def TX4 : u_T := fun k => match k with
  | 0 => ("LoserDraws", "citizens", "[LLoserDraws$Citizen;", true)
  | 1 => ("LoserDraws", "people", "I", false)
  | 2 => ("LoserDraws", "drawnNow", "I", false)
  | 3 => ("LoserDraws", "priceNow", "I", false)
  | 4 => ("LoserDraws", "readings", "[I", true)
  | 5 => ("LoserDraws", "readingsKept", "I", false)
  | 6 => ("LoserDraws", "sheets", "[LLoserDraws$Row;", true)
  | 7 => ("LoserDraws", "drum", "LLoserDraws$Drum;", true)
  | 8 => ("LoserDraws", "traceNow", "I", false)
  | _ => ("LoserDraws", "lastFault", "I", false)
def tyX4 : Nat → FieldType := fun k => match k with
  | 0 => .array (.object "LoserDraws$Citizen")
  | 1 => .int
  | 2 => .int
  | 3 => .int
  | 4 => .array .int
  | 5 => .int
  | 6 => .array (.object "LoserDraws$Row")
  | 7 => .object "LoserDraws$Drum"
  | 8 => .int
  | _ => .int
abbrev wsX40 : List Cond := u_ws RX4 TX4 10
theorem nmX4 : ∀ a, a < 10 → ∀ b, b < 10 → a ≠ b → (TX4 a).2.1 ≠ (TX4 b).2.1 := by decide +kernel
theorem tyX4_ok : ∀ k, k < 10 → parseFieldDescriptor (TX4 k).2.2.1 = some (tyX4 k) := by decide +kernel
abbrev cX4_init : ByteArray := prog_1_method_1_code
def yX4_init : MethodName := ⟨RX4, "<init>", "()V"⟩
abbrev cX4_republic : ByteArray := prog_1_method_2_code
def yX4_republic : MethodName := ⟨RX4, "republic", "(IIII)I"⟩
abbrev cX4_ofCitizen : ByteArray := prog_1_method_3_code
def yX4_ofCitizen : MethodName := ⟨RX4, "ofCitizen", "(II)I"⟩
abbrev cX4_drawn : ByteArray := prog_1_method_4_code
def yX4_drawn : MethodName := ⟨RX4, "drawn", "(I)I"⟩
abbrev cX4_price : ByteArray := prog_1_method_5_code
def yX4_price : MethodName := ⟨RX4, "price", "(I)I"⟩
abbrev cX4_wish : ByteArray := prog_1_method_6_code
def yX4_wish : MethodName := ⟨RX4, "wish", "(IZ)I"⟩
abbrev cX4_draw : ByteArray := prog_1_method_7_code
def yX4_draw : MethodName := ⟨RX4, "draw", "(IIIII)I"⟩
abbrev cX4_rules : ByteArray := prog_1_method_8_code
def yX4_rules : MethodName := ⟨RX4, "rules", "(II)J"⟩
abbrev cX4_just : ByteArray := prog_1_method_9_code
def yX4_just : MethodName := ⟨RX4, "just", "(II)J"⟩
abbrev cX4_mean : ByteArray := prog_1_method_10_code
def yX4_mean : MethodName := ⟨RX4, "mean", "(I)J"⟩
abbrev cX4_passes : ByteArray := prog_1_method_11_code
def yX4_passes : MethodName := ⟨RX4, "passes", "(I)J"⟩
abbrev cX4_buy : ByteArray := prog_1_method_12_code
def yX4_buy : MethodName := ⟨RX4, "buy", "(III)I"⟩
abbrev cX4_lend : ByteArray := prog_1_method_13_code
def yX4_lend : MethodName := ⟨RX4, "lend", "(I)I"⟩
abbrev cX4_least : ByteArray := prog_1_method_14_code
def yX4_least : MethodName := ⟨RX4, "least", "(I)I"⟩
abbrev cX4_reading : ByteArray := prog_1_method_15_code
def yX4_reading : MethodName := ⟨RX4, "reading", "(I)I"⟩
abbrev cX4_back : ByteArray := prog_1_method_16_code
def yX4_back : MethodName := ⟨RX4, "back", "(I)I"⟩
abbrev cX4_tickets : ByteArray := prog_1_method_17_code
def yX4_tickets : MethodName := ⟨RX4, "tickets", "(I)I"⟩
abbrev cX4_kinds : ByteArray := prog_1_method_18_code
def yX4_kinds : MethodName := ⟨RX4, "kinds", "(I)I"⟩
abbrev cX4_counts : ByteArray := prog_1_method_19_code
def yX4_counts : MethodName := ⟨RX4, "counts", "()I"⟩
abbrev cX4_sheet : ByteArray := prog_1_method_20_code
def yX4_sheet : MethodName := ⟨RX4, "sheet", "(III)I"⟩
abbrev cX4_lose : ByteArray := prog_1_method_21_code
def yX4_lose : MethodName := ⟨RX4, "lose", "(I)I"⟩
abbrev cX4_put : ByteArray := prog_1_method_22_code
def yX4_put : MethodName := ⟨RX4, "put", "(III)I"⟩
abbrev cX4_cell : ByteArray := prog_1_method_23_code
def yX4_cell : MethodName := ⟨RX4, "cell", "(III)J"⟩
abbrev cX4_copy : ByteArray := prog_1_method_24_code
def yX4_copy : MethodName := ⟨RX4, "copy", "(IIIII)I"⟩
abbrev cX4_tell : ByteArray := prog_1_method_25_code
def yX4_tell : MethodName := ⟨RX4, "tell", "(I)I"⟩
abbrev cX4_call : ByteArray := prog_1_method_26_code
def yX4_call : MethodName := ⟨RX4, "call", "(I)I"⟩
abbrev cX4_as : ByteArray := prog_1_method_27_code
def yX4_as : MethodName := ⟨RX4, "as", "(II)I"⟩
abbrev cX4_trace : ByteArray := prog_1_method_28_code
def yX4_trace : MethodName := ⟨RX4, "trace", "()I"⟩
abbrev cX4_fault : ByteArray := prog_1_method_29_code
def yX4_fault : MethodName := ⟨RX4, "fault", "()I"⟩
abbrev cX4_many : ByteArray := prog_1_method_30_code
def yX4_many : MethodName := ⟨RX4, "many", "(I)I"⟩
abbrev cX4_isSheet : ByteArray := prog_1_method_31_code
def yX4_isSheet : MethodName := ⟨RX4, "isSheet", "(I)Z"⟩
abbrev cX4_isLane : ByteArray := prog_1_method_32_code
def yX4_isLane : MethodName := ⟨RX4, "isLane", "(I)Z"⟩
abbrev cX4_isWhich : ByteArray := prog_1_method_33_code
def yX4_isWhich : MethodName := ⟨RX4, "isWhich", "(I)Z"⟩
abbrev cX4_isSet : ByteArray := prog_1_method_34_code
def yX4_isSet : MethodName := ⟨RX4, "isSet", "(I)Z"⟩
abbrev cX4_citizen : ByteArray := prog_1_method_35_code
def yX4_citizen : MethodName := ⟨RX4, "citizen", "(I)LLoserDraws$Citizen;"⟩
abbrev cX4_placeOf : ByteArray := prog_1_method_36_code
def yX4_placeOf : MethodName := ⟨RX4, "placeOf", "(I)LLoserDraws$Row;"⟩
abbrev cX4_rowOf : ByteArray := prog_1_method_37_code
def yX4_rowOf : MethodName := ⟨RX4, "rowOf", "(I)LLoserDraws$Row;"⟩
abbrev cX4_faulted : ByteArray := prog_1_method_38_code
def yX4_faulted : MethodName := ⟨RX4, "faulted", "(I)I"⟩
abbrev cX4_faultOf : ByteArray := prog_1_method_39_code
def yX4_faultOf : MethodName := ⟨RX4, "faultOf", "(LLoserDraws$Row;III)I"⟩
abbrev cX4_slipsOf : ByteArray := prog_1_method_40_code
def yX4_slipsOf : MethodName := ⟨RX4, "slipsOf", "(II)I"⟩
abbrev cX4_slipsAhead : ByteArray := prog_1_method_41_code
def yX4_slipsAhead : MethodName := ⟨RX4, "slipsAhead", "(I)I"⟩
abbrev cX4_ownerOf : ByteArray := prog_1_method_42_code
def yX4_ownerOf : MethodName := ⟨RX4, "ownerOf", "(I)I"⟩
abbrev cX4_takeText : ByteArray := prog_1_method_43_code
def yX4_takeText : MethodName := ⟨RX4, "takeText", "(LLoserDraws$Row;II)V"⟩
abbrev cX4_firstWrong : ByteArray := prog_1_method_44_code
def yX4_firstWrong : MethodName := ⟨RX4, "firstWrong", "(LLoserDraws$Row;II)I"⟩
abbrev cX4_rulersBy : ByteArray := prog_1_method_45_code
def yX4_rulersBy : MethodName := ⟨RX4, "rulersBy", "(LLoserDraws$Row;II)I"⟩
abbrev cX4_fillDrum : ByteArray := prog_1_method_46_code
def yX4_fillDrum : MethodName := ⟨RX4, "fillDrum", "()V"⟩
abbrev cX4_allReadingsCanBe : ByteArray := prog_1_method_47_code
def yX4_allReadingsCanBe : MethodName := ⟨RX4, "allReadingsCanBe", "()Z"⟩
abbrev cX4_partOf : ByteArray := prog_1_method_48_code
def yX4_partOf : MethodName := ⟨RX4, "partOf", "(JJI)J"⟩
abbrev cX4_isMore : ByteArray := prog_1_method_49_code
def yX4_isMore : MethodName := ⟨RX4, "isMore", "(JJJJ)Z"⟩
abbrev cX4_leaveInTrace : ByteArray := prog_1_method_50_code
def yX4_leaveInTrace : MethodName := ⟨RX4, "leaveInTrace", "(I)V"⟩
abbrev cX4_citizenTells : ByteArray := prog_1_method_51_code
def yX4_citizenTells : MethodName := ⟨RX4, "citizenTells", "(I)I"⟩
abbrev cX4_richTells : ByteArray := prog_1_method_52_code
def yX4_richTells : MethodName := ⟨RX4, "richTells", "(I)I"⟩
abbrev cX4_miserTells : ByteArray := prog_1_method_53_code
def yX4_miserTells : MethodName := ⟨RX4, "miserTells", "(I)I"⟩
def RX5 : String := "LoserDrawsModel"
def TX5 : u_T := fun k => match k with
  | 0 => ("LoserDrawsModel", "fault", "I", false)
  | 1 => ("LoserDrawsModel", "drawnNow", "I", false)
  | 2 => ("LoserDrawsModel", "priceNow", "I", false)
  | 3 => ("LoserDrawsModel", "citizens", "I", false)
  | 4 => ("LoserDrawsModel", "kindOf", "[I", true)
  | 5 => ("LoserDrawsModel", "ticketsOf", "[I", true)
  | 6 => ("LoserDrawsModel", "geeseOf", "[I", true)
  | 7 => ("LoserDrawsModel", "wishing", "I", false)
  | 8 => ("LoserDrawsModel", "readAt", "I", false)
  | 9 => ("LoserDrawsModel", "readDrawn", "I", false)
  | 10 => ("LoserDrawsModel", "readPrice", "I", false)
  | 11 => ("LoserDrawsModel", "readCitizens", "I", false)
  | 12 => ("LoserDrawsModel", "readWishing", "I", false)
  | 13 => ("LoserDrawsModel", "readKind", "[I", true)
  | 14 => ("LoserDrawsModel", "readTickets", "[I", true)
  | 15 => ("LoserDrawsModel", "readGeese", "[I", true)
  | 16 => ("LoserDrawsModel", "firstWrong", "I", false)
  | 17 => ("LoserDrawsModel", "readings", "I", false)
  | 18 => ("LoserDrawsModel", "readingSet", "[I", true)
  | 19 => ("LoserDrawsModel", "sheetSize", "[I", true)
  | 20 => ("LoserDrawsModel", "sheetLane", "[I", true)
  | 21 => ("LoserDrawsModel", "sheet", "[I", true)
  | 22 => ("LoserDrawsModel", "hands", "[I", true)
  | _ => ("LoserDrawsModel", "traceNow", "I", false)
def tyX5 : Nat → FieldType := fun k => match k with
  | 0 => .int
  | 1 => .int
  | 2 => .int
  | 3 => .int
  | 4 => .array .int
  | 5 => .array .int
  | 6 => .array .int
  | 7 => .int
  | 8 => .int
  | 9 => .int
  | 10 => .int
  | 11 => .int
  | 12 => .int
  | 13 => .array .int
  | 14 => .array .int
  | 15 => .array .int
  | 16 => .int
  | 17 => .int
  | 18 => .array .int
  | 19 => .array .int
  | 20 => .array .int
  | 21 => .array .int
  | 22 => .array .int
  | _ => .int
abbrev wsX50 : List Cond := u_ws RX5 TX5 24
theorem nmX5 : ∀ a, a < 24 → ∀ b, b < 24 → a ≠ b → (TX5 a).2.1 ≠ (TX5 b).2.1 := by decide +kernel
theorem tyX5_ok : ∀ k, k < 24 → parseFieldDescriptor (TX5 k).2.2.1 = some (tyX5 k) := by decide +kernel
abbrev cX5_init : ByteArray := prog_7_method_1_code
def yX5_init : MethodName := ⟨RX5, "<init>", "()V"⟩
abbrev cX5_in : ByteArray := prog_7_method_2_code
def yX5_in : MethodName := ⟨RX5, "in", "(JJJ)Z"⟩
abbrev cX5_lost : ByteArray := prog_7_method_3_code
def yX5_lost : MethodName := ⟨RX5, "lost", "()J"⟩
abbrev cX5_isIn : ByteArray := prog_7_method_4_code
def yX5_isIn : MethodName := ⟨RX5, "isIn", "(II)Z"⟩
abbrev cX5_bits : ByteArray := prog_7_method_5_code
def yX5_bits : MethodName := ⟨RX5, "bits", "(I)I"⟩
abbrev cX5_share : ByteArray := prog_7_method_6_code
def yX5_share : MethodName := ⟨RX5, "share", "(JJI)J"⟩
abbrev cX5_isAbove : ByteArray := prog_7_method_7_code
def yX5_isAbove : MethodName := ⟨RX5, "isAbove", "(JJJJ)Z"⟩
abbrev cX5_waysOf : ByteArray := prog_7_method_8_code
def yX5_waysOf : MethodName := ⟨RX5, "waysOf", "(II)J"⟩
abbrev cX5_refused : ByteArray := prog_7_method_9_code
def yX5_refused : MethodName := ⟨RX5, "refused", "(I)I"⟩
abbrev cX5_failed : ByteArray := prog_7_method_10_code
def yX5_failed : MethodName := ⟨RX5, "failed", "(I)I"⟩
abbrev cX5_failedLong : ByteArray := prog_7_method_11_code
def yX5_failedLong : MethodName := ⟨RX5, "failedLong", "(I)J"⟩
abbrev cX5_noCitizen : ByteArray := prog_7_method_12_code
def yX5_noCitizen : MethodName := ⟨RX5, "noCitizen", "(I)Z"⟩
abbrev cX5_everybody : ByteArray := prog_7_method_13_code
def yX5_everybody : MethodName := ⟨RX5, "everybody", "()I"⟩
abbrev cX5_codeAt : ByteArray := prog_7_method_14_code
def yX5_codeAt : MethodName := ⟨RX5, "codeAt", "(II)I"⟩
abbrev cX5_figure : ByteArray := prog_7_method_15_code
def yX5_figure : MethodName := ⟨RX5, "figure", "(IIII)I"⟩
abbrev cX5_readsCitizen : ByteArray := prog_7_method_16_code
def yX5_readsCitizen : MethodName := ⟨RX5, "readsCitizen", "(II)Z"⟩
abbrev cX5_readsRepublic : ByteArray := prog_7_method_17_code
def yX5_readsRepublic : MethodName := ⟨RX5, "readsRepublic", "(II)Z"⟩
abbrev cX5_cellsBarred : ByteArray := prog_7_method_18_code
def yX5_cellsBarred : MethodName := ⟨RX5, "cellsBarred", "(IIIJ)I"⟩
abbrev cX5_republic : ByteArray := prog_7_method_19_code
def yX5_republic : MethodName := ⟨RX5, "republic", "(IIII)I"⟩
abbrev cX5_slipsOf : ByteArray := prog_7_method_20_code
def yX5_slipsOf : MethodName := ⟨RX5, "slipsOf", "(I)I"⟩
abbrev cX5_slipsOfAll : ByteArray := prog_7_method_21_code
def yX5_slipsOfAll : MethodName := ⟨RX5, "slipsOfAll", "(I)I"⟩
abbrev cX5_drawnOf : ByteArray := prog_7_method_22_code
def yX5_drawnOf : MethodName := ⟨RX5, "drawnOf", "(I)I"⟩
abbrev cX5_ofCitizen : ByteArray := prog_7_method_23_code
def yX5_ofCitizen : MethodName := ⟨RX5, "ofCitizen", "(II)I"⟩
abbrev cX5_drawn : ByteArray := prog_7_method_24_code
def yX5_drawn : MethodName := ⟨RX5, "drawn", "(I)I"⟩
abbrev cX5_price : ByteArray := prog_7_method_25_code
def yX5_price : MethodName := ⟨RX5, "price", "(I)I"⟩
abbrev cX5_wish : ByteArray := prog_7_method_26_code
def yX5_wish : MethodName := ⟨RX5, "wish", "(IZ)I"⟩
abbrev cX5_ownerOf : ByteArray := prog_7_method_27_code
def yX5_ownerOf : MethodName := ⟨RX5, "ownerOf", "(I)I"⟩
abbrev cX5_doesPass : ByteArray := prog_7_method_28_code
def yX5_doesPass : MethodName := ⟨RX5, "doesPass", "(I)Z"⟩
abbrev cX5_freeBy : ByteArray := prog_7_method_29_code
def yX5_freeBy : MethodName := ⟨RX5, "freeBy", "(II)I"⟩
abbrev cX5_draw : ByteArray := prog_7_method_30_code
def yX5_draw : MethodName := ⟨RX5, "draw", "(IIIII)I"⟩
abbrev cX5_allDraws : ByteArray := prog_7_method_31_code
def yX5_allDraws : MethodName := ⟨RX5, "allDraws", "()J"⟩
abbrev cX5_drawsOf : ByteArray := prog_7_method_32_code
def yX5_drawsOf : MethodName := ⟨RX5, "drawsOf", "(I)J"⟩
abbrev cX5_drawsWithout : ByteArray := prog_7_method_33_code
def yX5_drawsWithout : MethodName := ⟨RX5, "drawsWithout", "(I)J"⟩
abbrev cX5_rules : ByteArray := prog_7_method_34_code
def yX5_rules : MethodName := ⟨RX5, "rules", "(II)J"⟩
abbrev cX5_just : ByteArray := prog_7_method_35_code
def yX5_just : MethodName := ⟨RX5, "just", "(II)J"⟩
abbrev cX5_mean : ByteArray := prog_7_method_36_code
def yX5_mean : MethodName := ⟨RX5, "mean", "(I)J"⟩
abbrev cX5_passingDraws : ByteArray := prog_7_method_37_code
def yX5_passingDraws : MethodName := ⟨RX5, "passingDraws", "()J"⟩
abbrev cX5_passes : ByteArray := prog_7_method_38_code
def yX5_passes : MethodName := ⟨RX5, "passes", "(I)J"⟩
abbrev cX5_buy : ByteArray := prog_7_method_39_code
def yX5_buy : MethodName := ⟨RX5, "buy", "(III)I"⟩
abbrev cX5_lend : ByteArray := prog_7_method_40_code
def yX5_lend : MethodName := ⟨RX5, "lend", "(I)I"⟩
abbrev cX5_isLikely : ByteArray := prog_7_method_41_code
def yX5_isLikely : MethodName := ⟨RX5, "isLikely", "()Z"⟩
abbrev cX5_least : ByteArray := prog_7_method_42_code
def yX5_least : MethodName := ⟨RX5, "least", "(I)I"⟩
abbrev cX5_reading : ByteArray := prog_7_method_43_code
def yX5_reading : MethodName := ⟨RX5, "reading", "(I)I"⟩
abbrev cX5_back : ByteArray := prog_7_method_44_code
def yX5_back : MethodName := ⟨RX5, "back", "(I)I"⟩
abbrev cX5_canBe : ByteArray := prog_7_method_45_code
def yX5_canBe : MethodName := ⟨RX5, "canBe", "()Z"⟩
abbrev cX5_tickets : ByteArray := prog_7_method_46_code
def yX5_tickets : MethodName := ⟨RX5, "tickets", "(I)I"⟩
abbrev cX5_kinds : ByteArray := prog_7_method_47_code
def yX5_kinds : MethodName := ⟨RX5, "kinds", "(I)I"⟩
abbrev cX5_counts : ByteArray := prog_7_method_48_code
def yX5_counts : MethodName := ⟨RX5, "counts", "()I"⟩
abbrev cX5_noSheet : ByteArray := prog_7_method_49_code
def yX5_noSheet : MethodName := ⟨RX5, "noSheet", "(I)Z"⟩
abbrev cX5_sheet : ByteArray := prog_7_method_50_code
def yX5_sheet : MethodName := ⟨RX5, "sheet", "(III)I"⟩
abbrev cX5_lose : ByteArray := prog_7_method_51_code
def yX5_lose : MethodName := ⟨RX5, "lose", "(I)I"⟩
abbrev cX5_noCell : ByteArray := prog_7_method_52_code
def yX5_noCell : MethodName := ⟨RX5, "noCell", "(II)I"⟩
abbrev cX5_put : ByteArray := prog_7_method_53_code
def yX5_put : MethodName := ⟨RX5, "put", "(III)I"⟩
abbrev cX5_cell : ByteArray := prog_7_method_54_code
def yX5_cell : MethodName := ⟨RX5, "cell", "(III)J"⟩
abbrev cX5_isBeyond : ByteArray := prog_7_method_55_code
def yX5_isBeyond : MethodName := ⟨RX5, "isBeyond", "(IJI)Z"⟩
abbrev cX5_copy : ByteArray := prog_7_method_56_code
def yX5_copy : MethodName := ⟨RX5, "copy", "(IIIII)I"⟩
abbrev cX5_traced : ByteArray := prog_7_method_57_code
def yX5_traced : MethodName := ⟨RX5, "traced", "(I)V"⟩
abbrev cX5_tell : ByteArray := prog_7_method_58_code
def yX5_tell : MethodName := ⟨RX5, "tell", "(I)I"⟩
abbrev cX5_call : ByteArray := prog_7_method_59_code
def yX5_call : MethodName := ⟨RX5, "call", "(I)I"⟩
abbrev cX5_as : ByteArray := prog_7_method_60_code
def yX5_as : MethodName := ⟨RX5, "as", "(II)I"⟩
abbrev cX5_trace : ByteArray := prog_7_method_61_code
def yX5_trace : MethodName := ⟨RX5, "trace", "()I"⟩
abbrev cX5_fault : ByteArray := prog_7_method_62_code
def yX5_fault : MethodName := ⟨RX5, "fault", "()I"⟩
abbrev cX5_many : ByteArray := prog_7_method_63_code
def yX5_many : MethodName := ⟨RX5, "many", "(I)I"⟩
def RJ6 : String := "java/lang/Integer"
def TJ6 : u_T := fun k => match k with
  | _ => ("", "", "", false)
def tyJ6 : Nat → FieldType := fun k => match k with
  | _ => .int
abbrev wsJ60 : List Cond := u_ws RJ6 TJ6 0
theorem nmJ6 : ∀ a, a < 0 → ∀ b, b < 0 → a ≠ b → (TJ6 a).2.1 ≠ (TJ6 b).2.1 := by decide +kernel
theorem tyJ6_ok : ∀ k, k < 0 → parseFieldDescriptor (TJ6 k).2.2.1 = some (tyJ6 k) := by decide +kernel
abbrev cJ6_bitCount_0f7a4 : ByteArray := prog_8_method_49_code
def yJ6_bitCount_0f7a4 : MethodName := ⟨RJ6, "bitCount", "(I)I"⟩
def RJ9 : String := "java/lang/Math"
def TJ9 : u_T := fun k => match k with
  | _ => ("", "", "", false)
def tyJ9 : Nat → FieldType := fun k => match k with
  | _ => .int
abbrev wsJ90 : List Cond := u_ws RJ9 TJ9 0
theorem nmJ9 : ∀ a, a < 0 → ∀ b, b < 0 → a ≠ b → (TJ9 a).2.1 ≠ (TJ9 b).2.1 := by decide +kernel
theorem tyJ9_ok : ∀ k, k < 0 → parseFieldDescriptor (TJ9 k).2.2.1 = some (tyJ9 k) := by decide +kernel
abbrev cJ9_max_7cf53 : ByteArray := prog_9_method_65_code
def yJ9_max_7cf53 : MethodName := ⟨RJ9, "max", "(II)I"⟩
abbrev cJ9_min_7cf53 : ByteArray := prog_9_method_69_code
def yJ9_min_7cf53 : MethodName := ⟨RJ9, "min", "(II)I"⟩
def RJ10 : String := "java/lang/System"
def TJ10 : u_T := fun k => match k with
  | _ => ("", "", "", false)
def tyJ10 : Nat → FieldType := fun k => match k with
  | _ => .int
abbrev wsJ100 : List Cond := u_ws RJ10 TJ10 0
theorem nmJ10 : ∀ a, a < 0 → ∀ b, b < 0 → a ≠ b → (TJ10 a).2.1 ≠ (TJ10 b).2.1 := by decide +kernel
theorem tyJ10_ok : ∀ k, k < 0 → parseFieldDescriptor (TJ10 k).2.2.1 = some (tyJ10 k) := by decide +kernel
def RL : String := "LoserDrawsLaw"
abbrev cL_law : ByteArray := code
def yL_law : MethodName := ⟨RL, "law", "([I)Z"⟩
def wsX0_init : List Cond := .code yX0_init cX0_init 1 none :: ([.methodLink RX0 1 objectInit, .instanceMethod objectInit, .code objectInit ⟨#[0xb1]⟩ 1 none])
def wsX4_slipsOf : List Cond := .code yX4_slipsOf cX4_slipsOf 3 (some .int) :: ([])
def wsX0_slips : List Cond := .code yX0_slips cX0_slips 1 (some .int) :: ([.fieldLink RX0 7 "LoserDraws$Citizen" "kind" "I", .fieldLink RX0 13 "LoserDraws$Citizen" "tickets" "I", .static yX4_slipsOf, .initialized RX4, .code yX4_slipsOf cX4_slipsOf 3 (some .int)] ++ wsX00)
def wsX1_init : List Cond := .code yX1_init cX1_init 1 none :: ([.methodLink RX1 3 objectInit, .instanceMethod objectInit, .code objectInit ⟨#[0xb1]⟩ 1 none, .arrayClass .int, .fieldLink RX1 9 "LoserDraws$Drum" "slips" "[I", .arrayClass .long, .fieldLink RX1 15 "LoserDraws$Drum" "picks" "[J", .fieldLink RX1 19 "LoserDraws$Drum" "freeing" "[J"] ++ wsX10)
def wsX1_setDrawn : List Cond := .code yX1_setDrawn cX1_setDrawn 2 none :: ([.methodLink RX1 22 Lib.Math.min.name, .static Lib.Math.min.name, .initialized "java/lang/Math", .code Lib.Math.min.name Lib.Math.min.code 2 (some .int), .methodLink RX1 28 Lib.Math.max.name, .static Lib.Math.max.name, .code Lib.Math.max.name Lib.Math.max.code 2 (some .int), .fieldLink RX1 45 "LoserDraws$Drum" "drawn" "I"] ++ wsX10)
def wsX1_empty : List Cond := .code yX1_empty cX1_empty 4 none :: ([.methodLink RX1 22 Lib.Math.min.name, .static Lib.Math.min.name, .initialized "java/lang/Math", .code Lib.Math.min.name Lib.Math.min.code 2 (some .int), .methodLink RX1 28 Lib.Math.max.name, .static Lib.Math.max.name, .code Lib.Math.max.name Lib.Math.max.code 2 (some .int), .fieldLink RX1 31 "LoserDraws$Drum" "people" "I", .fieldLink RX1 35 "LoserDraws$Drum" "wishers" "I", .fieldLink RX1 38 "LoserDraws$Drum" "total" "I", .fieldLink RX1 9 "LoserDraws$Drum" "slips" "[I", .methodLink RX1 41 yX1_setDrawn, .instanceMethod yX1_setDrawn, .selects RX1 yX1_setDrawn yX1_setDrawn, .initialized RX1, .code yX1_setDrawn cX1_setDrawn 2 none, .fieldLink RX1 45 "LoserDraws$Drum" "drawn" "I"] ++ wsX10)
def wsX1_choose : List Cond := .code yX1_choose cX1_choose 5 (some .long) :: ([])
def wsX1_setSlips : List Cond := .code yX1_setSlips cX1_setSlips 5 none :: ([.fieldLink RX1 9 "LoserDraws$Drum" "slips" "[I", .fieldLink RX1 38 "LoserDraws$Drum" "total" "I", .fieldLink RX1 15 "LoserDraws$Drum" "picks" "[J", .methodLink RX1 48 yX1_choose, .static yX1_choose, .initialized RX1, .code yX1_choose cX1_choose 5 (some .long)] ++ wsX10)
def wsX1_setWishes : List Cond := .code yX1_setWishes cX1_setWishes 4 none :: ([.fieldLink RX1 35 "LoserDraws$Drum" "wishers" "I"] ++ wsX10)
def wsX1_slipsOfOne : List Cond := .code yX1_slipsOfOne cX1_slipsOfOne 2 (some .int) :: ([.fieldLink RX1 9 "LoserDraws$Drum" "slips" "[I"] ++ wsX10)
def wsX1_taken : List Cond := .code yX1_taken cX1_taken 1 (some .int) :: ([.fieldLink RX1 45 "LoserDraws$Drum" "drawn" "I", .fieldLink RX1 38 "LoserDraws$Drum" "total" "I", .methodLink RX1 22 Lib.Math.min.name, .static Lib.Math.min.name, .initialized "java/lang/Math", .code Lib.Math.min.name Lib.Math.min.code 2 (some .int)] ++ wsX10)
def wsX1_draws : List Cond := .code yX1_draws cX1_draws 1 (some .long) :: ([.fieldLink RX1 38 "LoserDraws$Drum" "total" "I", .methodLink RX1 52 yX1_taken, .instanceMethod yX1_taken, .selects RX1 yX1_taken yX1_taken, .initialized RX1, .code yX1_taken cX1_taken 1 (some .int), .fieldLink RX1 45 "LoserDraws$Drum" "drawn" "I", .methodLink RX1 22 Lib.Math.min.name, .static Lib.Math.min.name, .initialized "java/lang/Math", .code Lib.Math.min.name Lib.Math.min.code 2 (some .int), .methodLink RX1 48 yX1_choose, .static yX1_choose, .code yX1_choose cX1_choose 5 (some .long)] ++ wsX10)
def wsX1_drawsSparing : List Cond := .code yX1_drawsSparing cX1_drawsSparing 2 (some .long) :: ([.fieldLink RX1 38 "LoserDraws$Drum" "total" "I", .methodLink RX1 56 yX1_slipsOfOne, .instanceMethod yX1_slipsOfOne, .selects RX1 yX1_slipsOfOne yX1_slipsOfOne, .initialized RX1, .code yX1_slipsOfOne cX1_slipsOfOne 2 (some .int), .fieldLink RX1 9 "LoserDraws$Drum" "slips" "[I", .methodLink RX1 52 yX1_taken, .instanceMethod yX1_taken, .selects RX1 yX1_taken yX1_taken, .code yX1_taken cX1_taken 1 (some .int), .fieldLink RX1 45 "LoserDraws$Drum" "drawn" "I", .methodLink RX1 22 Lib.Math.min.name, .static Lib.Math.min.name, .initialized "java/lang/Math", .code Lib.Math.min.name Lib.Math.min.code 2 (some .int), .methodLink RX1 48 yX1_choose, .static yX1_choose, .code yX1_choose cX1_choose 5 (some .long)] ++ wsX10)
def wsJ6_bitCount_0f7a4 : List Cond := .code yJ6_bitCount_0f7a4 cJ6_bitCount_0f7a4 1 (some .int) :: ([.constant RJ6 265 (1431655765), .constant RJ6 266 (858993459), .constant RJ6 267 (252645135)])
def wsX1_waysWithLast : List Cond := .code yX1_waysWithLast cX1_waysWithLast 10 (some .long) :: ([.fieldLink RX1 15 "LoserDraws$Drum" "picks" "[J", .fieldLink RX1 19 "LoserDraws$Drum" "freeing" "[J", .methodLink RX1 73 yJ6_bitCount_0f7a4, .static yJ6_bitCount_0f7a4, .initialized RJ6, .code yJ6_bitCount_0f7a4 cJ6_bitCount_0f7a4 1 (some .int), .constant RJ6 265 (1431655765), .constant RJ6 266 (858993459), .constant RJ6 267 (252645135)] ++ wsX10)
def wsX1_countFreeingWith : List Cond := .code yX1_countFreeingWith cX1_countFreeingWith 7 none :: ([.fieldLink RX1 19 "LoserDraws$Drum" "freeing" "[J", .methodLink RX1 52 yX1_taken, .instanceMethod yX1_taken, .selects RX1 yX1_taken yX1_taken, .initialized RX1, .code yX1_taken cX1_taken 1 (some .int), .fieldLink RX1 45 "LoserDraws$Drum" "drawn" "I", .fieldLink RX1 38 "LoserDraws$Drum" "total" "I", .methodLink RX1 22 Lib.Math.min.name, .static Lib.Math.min.name, .initialized "java/lang/Math", .code Lib.Math.min.name Lib.Math.min.code 2 (some .int), .methodLink RX1 73 yJ6_bitCount_0f7a4, .static yJ6_bitCount_0f7a4, .initialized RJ6, .code yJ6_bitCount_0f7a4 cJ6_bitCount_0f7a4 1 (some .int), .constant RJ6 265 (1431655765), .constant RJ6 266 (858993459), .constant RJ6 267 (252645135), .methodLink RX1 91 yX1_waysWithLast, .instanceMethod yX1_waysWithLast, .selects RX1 yX1_waysWithLast yX1_waysWithLast, .code yX1_waysWithLast cX1_waysWithLast 10 (some .long), .fieldLink RX1 15 "LoserDraws$Drum" "picks" "[J"] ++ wsX10)
def wsX1_countFreeing_r1 : List Cond := [Cond.fieldLink RX1 31 "LoserDraws$Drum" "people" "I", Cond.methodLink RX1 87 yX1_countFreeingWith, Cond.instanceMethod yX1_countFreeingWith, Cond.selects RX1 yX1_countFreeingWith yX1_countFreeingWith, Cond.initialized RX1, Cond.code yX1_countFreeingWith cX1_countFreeingWith 7 none, Cond.fieldLink RX1 19 "LoserDraws$Drum" "freeing" "[J", Cond.methodLink RX1 52 yX1_taken, Cond.instanceMethod yX1_taken, Cond.selects RX1 yX1_taken yX1_taken, Cond.code yX1_taken cX1_taken 1 (some .int), Cond.fieldLink RX1 45 "LoserDraws$Drum" "drawn" "I", Cond.fieldLink RX1 38 "LoserDraws$Drum" "total" "I", Cond.methodLink RX1 22 Lib.Math.min.name, Cond.static Lib.Math.min.name, Cond.initialized "java/lang/Math", Cond.code Lib.Math.min.name Lib.Math.min.code 2 (some .int), Cond.methodLink RX1 73 yJ6_bitCount_0f7a4, Cond.static yJ6_bitCount_0f7a4, Cond.initialized RJ6, Cond.code yJ6_bitCount_0f7a4 cJ6_bitCount_0f7a4 1 (some .int), Cond.constant RJ6 265 (1431655765), Cond.constant RJ6 266 (858993459), Cond.constant RJ6 267 (252645135)]
def wsX1_countFreeing_r2 : List Cond := [Cond.methodLink RX1 91 yX1_waysWithLast, Cond.instanceMethod yX1_waysWithLast, Cond.selects RX1 yX1_waysWithLast yX1_waysWithLast, Cond.code yX1_waysWithLast cX1_waysWithLast 10 (some .long), Cond.fieldLink RX1 15 "LoserDraws$Drum" "picks" "[J"]
def wsX1_countFreeing : List Cond := .code yX1_countFreeing cX1_countFreeing 3 none :: ((wsX1_countFreeing_r1 ++ wsX1_countFreeing_r2) ++ wsX10)
def wsX1_everybody : List Cond := .code yX1_everybody cX1_everybody 1 (some .int) :: ([.fieldLink RX1 31 "LoserDraws$Drum" "people" "I"] ++ wsX10)
def wsX1_freeingBy : List Cond := .code yX1_freeingBy cX1_freeingBy 4 (some .long) :: ([.fieldLink RX1 19 "LoserDraws$Drum" "freeing" "[J"] ++ wsX10)
def wsX1_drawsLeavingJust_r1 : List Cond := [Cond.methodLink RX1 60 yX1_countFreeing, Cond.instanceMethod yX1_countFreeing, Cond.selects RX1 yX1_countFreeing yX1_countFreeing, Cond.initialized RX1, Cond.code yX1_countFreeing cX1_countFreeing 3 none, Cond.fieldLink RX1 31 "LoserDraws$Drum" "people" "I", Cond.methodLink RX1 87 yX1_countFreeingWith, Cond.instanceMethod yX1_countFreeingWith, Cond.selects RX1 yX1_countFreeingWith yX1_countFreeingWith, Cond.code yX1_countFreeingWith cX1_countFreeingWith 7 none, Cond.fieldLink RX1 19 "LoserDraws$Drum" "freeing" "[J", Cond.methodLink RX1 52 yX1_taken, Cond.instanceMethod yX1_taken, Cond.selects RX1 yX1_taken yX1_taken, Cond.code yX1_taken cX1_taken 1 (some .int), Cond.fieldLink RX1 45 "LoserDraws$Drum" "drawn" "I", Cond.fieldLink RX1 38 "LoserDraws$Drum" "total" "I", Cond.methodLink RX1 22 Lib.Math.min.name, Cond.static Lib.Math.min.name, Cond.initialized "java/lang/Math", Cond.code Lib.Math.min.name Lib.Math.min.code 2 (some .int), Cond.methodLink RX1 73 yJ6_bitCount_0f7a4, Cond.static yJ6_bitCount_0f7a4, Cond.initialized RJ6]
def wsX1_drawsLeavingJust_r2 : List Cond := [Cond.code yJ6_bitCount_0f7a4 cJ6_bitCount_0f7a4 1 (some .int), Cond.constant RJ6 265 (1431655765), Cond.constant RJ6 266 (858993459), Cond.constant RJ6 267 (252645135), Cond.methodLink RX1 91 yX1_waysWithLast, Cond.instanceMethod yX1_waysWithLast, Cond.selects RX1 yX1_waysWithLast yX1_waysWithLast, Cond.code yX1_waysWithLast cX1_waysWithLast 10 (some .long), Cond.fieldLink RX1 15 "LoserDraws$Drum" "picks" "[J", Cond.methodLink RX1 63 yX1_everybody, Cond.instanceMethod yX1_everybody, Cond.selects RX1 yX1_everybody yX1_everybody, Cond.code yX1_everybody cX1_everybody 1 (some .int), Cond.methodLink RX1 66 yX1_freeingBy, Cond.instanceMethod yX1_freeingBy, Cond.selects RX1 yX1_freeingBy yX1_freeingBy, Cond.code yX1_freeingBy cX1_freeingBy 4 (some .long)]
def wsX1_drawsLeavingJust : List Cond := .code yX1_drawsLeavingJust cX1_drawsLeavingJust 2 (some .long) :: ((wsX1_drawsLeavingJust_r1 ++ wsX1_drawsLeavingJust_r2) ++ wsX10)
def wsX1_passesUnder : List Cond := .code yX1_passesUnder cX1_passesUnder 2 (some .boolean) :: ([.fieldLink RX1 35 "LoserDraws$Drum" "wishers" "I", .methodLink RX1 73 yJ6_bitCount_0f7a4, .static yJ6_bitCount_0f7a4, .initialized RJ6, .code yJ6_bitCount_0f7a4 cJ6_bitCount_0f7a4 1 (some .int), .constant RJ6 265 (1431655765), .constant RJ6 266 (858993459), .constant RJ6 267 (252645135)] ++ wsX10)
def wsX1_drawsPassing_r1 : List Cond := [Cond.methodLink RX1 60 yX1_countFreeing, Cond.instanceMethod yX1_countFreeing, Cond.selects RX1 yX1_countFreeing yX1_countFreeing, Cond.initialized RX1, Cond.code yX1_countFreeing cX1_countFreeing 3 none, Cond.fieldLink RX1 31 "LoserDraws$Drum" "people" "I", Cond.methodLink RX1 87 yX1_countFreeingWith, Cond.instanceMethod yX1_countFreeingWith, Cond.selects RX1 yX1_countFreeingWith yX1_countFreeingWith, Cond.code yX1_countFreeingWith cX1_countFreeingWith 7 none, Cond.fieldLink RX1 19 "LoserDraws$Drum" "freeing" "[J", Cond.methodLink RX1 52 yX1_taken, Cond.instanceMethod yX1_taken, Cond.selects RX1 yX1_taken yX1_taken, Cond.code yX1_taken cX1_taken 1 (some .int), Cond.fieldLink RX1 45 "LoserDraws$Drum" "drawn" "I", Cond.fieldLink RX1 38 "LoserDraws$Drum" "total" "I", Cond.methodLink RX1 22 Lib.Math.min.name, Cond.static Lib.Math.min.name, Cond.initialized "java/lang/Math", Cond.code Lib.Math.min.name Lib.Math.min.code 2 (some .int), Cond.methodLink RX1 73 yJ6_bitCount_0f7a4, Cond.static yJ6_bitCount_0f7a4, Cond.initialized RJ6]
def wsX1_drawsPassing_r2 : List Cond := [Cond.code yJ6_bitCount_0f7a4 cJ6_bitCount_0f7a4 1 (some .int), Cond.constant RJ6 265 (1431655765), Cond.constant RJ6 266 (858993459), Cond.constant RJ6 267 (252645135), Cond.methodLink RX1 91 yX1_waysWithLast, Cond.instanceMethod yX1_waysWithLast, Cond.selects RX1 yX1_waysWithLast yX1_waysWithLast, Cond.code yX1_waysWithLast cX1_waysWithLast 10 (some .long), Cond.fieldLink RX1 15 "LoserDraws$Drum" "picks" "[J", Cond.methodLink RX1 63 yX1_everybody, Cond.instanceMethod yX1_everybody, Cond.selects RX1 yX1_everybody yX1_everybody, Cond.code yX1_everybody cX1_everybody 1 (some .int), Cond.methodLink RX1 69 yX1_passesUnder, Cond.instanceMethod yX1_passesUnder, Cond.selects RX1 yX1_passesUnder yX1_passesUnder, Cond.code yX1_passesUnder cX1_passesUnder 2 (some .boolean), Cond.fieldLink RX1 35 "LoserDraws$Drum" "wishers" "I", Cond.methodLink RX1 66 yX1_freeingBy, Cond.instanceMethod yX1_freeingBy, Cond.selects RX1 yX1_freeingBy yX1_freeingBy, Cond.code yX1_freeingBy cX1_freeingBy 4 (some .long)]
def wsX1_drawsPassing : List Cond := .code yX1_drawsPassing cX1_drawsPassing 5 (some .long) :: ((wsX1_drawsPassing_r1 ++ wsX1_drawsPassing_r2) ++ wsX10)
def wsX1_passesByHalf_r1 : List Cond := [Cond.constantLong RX1 78 (2), Cond.methodLink RX1 80 yX1_drawsPassing, Cond.instanceMethod yX1_drawsPassing, Cond.selects RX1 yX1_drawsPassing yX1_drawsPassing, Cond.initialized RX1, Cond.code yX1_drawsPassing cX1_drawsPassing 5 (some .long), Cond.methodLink RX1 60 yX1_countFreeing, Cond.instanceMethod yX1_countFreeing, Cond.selects RX1 yX1_countFreeing yX1_countFreeing, Cond.code yX1_countFreeing cX1_countFreeing 3 none, Cond.fieldLink RX1 31 "LoserDraws$Drum" "people" "I", Cond.methodLink RX1 87 yX1_countFreeingWith, Cond.instanceMethod yX1_countFreeingWith, Cond.selects RX1 yX1_countFreeingWith yX1_countFreeingWith, Cond.code yX1_countFreeingWith cX1_countFreeingWith 7 none, Cond.fieldLink RX1 19 "LoserDraws$Drum" "freeing" "[J", Cond.methodLink RX1 52 yX1_taken, Cond.instanceMethod yX1_taken, Cond.selects RX1 yX1_taken yX1_taken, Cond.code yX1_taken cX1_taken 1 (some .int), Cond.fieldLink RX1 45 "LoserDraws$Drum" "drawn" "I", Cond.fieldLink RX1 38 "LoserDraws$Drum" "total" "I", Cond.methodLink RX1 22 Lib.Math.min.name, Cond.static Lib.Math.min.name]
def wsX1_passesByHalf_r2 : List Cond := [Cond.initialized "java/lang/Math", Cond.code Lib.Math.min.name Lib.Math.min.code 2 (some .int), Cond.methodLink RX1 73 yJ6_bitCount_0f7a4, Cond.static yJ6_bitCount_0f7a4, Cond.initialized RJ6, Cond.code yJ6_bitCount_0f7a4 cJ6_bitCount_0f7a4 1 (some .int), Cond.constant RJ6 265 (1431655765), Cond.constant RJ6 266 (858993459), Cond.constant RJ6 267 (252645135), Cond.methodLink RX1 91 yX1_waysWithLast, Cond.instanceMethod yX1_waysWithLast, Cond.selects RX1 yX1_waysWithLast yX1_waysWithLast, Cond.code yX1_waysWithLast cX1_waysWithLast 10 (some .long), Cond.fieldLink RX1 15 "LoserDraws$Drum" "picks" "[J", Cond.methodLink RX1 63 yX1_everybody, Cond.instanceMethod yX1_everybody, Cond.selects RX1 yX1_everybody yX1_everybody, Cond.code yX1_everybody cX1_everybody 1 (some .int), Cond.methodLink RX1 69 yX1_passesUnder, Cond.instanceMethod yX1_passesUnder, Cond.selects RX1 yX1_passesUnder yX1_passesUnder, Cond.code yX1_passesUnder cX1_passesUnder 2 (some .boolean), Cond.fieldLink RX1 35 "LoserDraws$Drum" "wishers" "I", Cond.methodLink RX1 66 yX1_freeingBy]
def wsX1_passesByHalf_r3 : List Cond := [Cond.instanceMethod yX1_freeingBy, Cond.selects RX1 yX1_freeingBy yX1_freeingBy, Cond.code yX1_freeingBy cX1_freeingBy 4 (some .long), Cond.methodLink RX1 84 yX1_draws, Cond.instanceMethod yX1_draws, Cond.selects RX1 yX1_draws yX1_draws, Cond.code yX1_draws cX1_draws 1 (some .long), Cond.methodLink RX1 48 yX1_choose, Cond.static yX1_choose, Cond.code yX1_choose cX1_choose 5 (some .long)]
def wsX1_passesByHalf : List Cond := .code yX1_passesByHalf cX1_passesByHalf 1 (some .boolean) :: ((wsX1_passesByHalf_r1 ++ (wsX1_passesByHalf_r2 ++ wsX1_passesByHalf_r3)) ++ wsX10)
def wsX1_canLeaveJust_r1 : List Cond := [Cond.fieldLink RX1 31 "LoserDraws$Drum" "people" "I", Cond.methodLink RX1 63 yX1_everybody, Cond.instanceMethod yX1_everybody, Cond.selects RX1 yX1_everybody yX1_everybody, Cond.initialized RX1, Cond.code yX1_everybody cX1_everybody 1 (some .int), Cond.methodLink RX1 56 yX1_slipsOfOne, Cond.instanceMethod yX1_slipsOfOne, Cond.selects RX1 yX1_slipsOfOne yX1_slipsOfOne, Cond.code yX1_slipsOfOne cX1_slipsOfOne 2 (some .int), Cond.fieldLink RX1 9 "LoserDraws$Drum" "slips" "[I", Cond.methodLink RX1 73 yJ6_bitCount_0f7a4, Cond.static yJ6_bitCount_0f7a4, Cond.initialized RJ6, Cond.code yJ6_bitCount_0f7a4 cJ6_bitCount_0f7a4 1 (some .int), Cond.constant RJ6 265 (1431655765), Cond.constant RJ6 266 (858993459), Cond.constant RJ6 267 (252645135), Cond.methodLink RX1 52 yX1_taken, Cond.instanceMethod yX1_taken, Cond.selects RX1 yX1_taken yX1_taken, Cond.code yX1_taken cX1_taken 1 (some .int), Cond.fieldLink RX1 45 "LoserDraws$Drum" "drawn" "I", Cond.fieldLink RX1 38 "LoserDraws$Drum" "total" "I"]
def wsX1_canLeaveJust_r2 : List Cond := [Cond.methodLink RX1 22 Lib.Math.min.name, Cond.static Lib.Math.min.name, Cond.initialized "java/lang/Math", Cond.code Lib.Math.min.name Lib.Math.min.code 2 (some .int)]
def wsX1_canLeaveJust : List Cond := .code yX1_canLeaveJust cX1_canLeaveJust 5 (some .boolean) :: ((wsX1_canLeaveJust_r1 ++ wsX1_canLeaveJust_r2) ++ wsX10)
def wsX2_init : List Cond := .code yX2_init cX2_init 1 none :: ([.methodLink RX2 3 objectInit, .instanceMethod objectInit, .code objectInit ⟨#[0xb1]⟩ 1 none, .arrayClass .int, .fieldLink RX2 9 "LoserDraws$Row" "cells" "[I"] ++ wsX20)
def wsX2_begin : List Cond := .code yX2_begin cX2_begin 4 none :: ([.fieldLink RX2 15 "LoserDraws$Row" "isThere" "Z", .fieldLink RX2 19 "LoserDraws$Row" "lane" "I", .fieldLink RX2 9 "LoserDraws$Row" "cells" "[I", .methodLink RX2 23 Lib.Math.min.name, .static Lib.Math.min.name, .initialized "java/lang/Math", .code Lib.Math.min.name Lib.Math.min.code 2 (some .int), .methodLink RX2 29 Lib.Math.max.name, .static Lib.Math.max.name, .code Lib.Math.max.name Lib.Math.max.code 2 (some .int), .fieldLink RX2 32 "LoserDraws$Row" "length" "I"] ++ wsX20)
def wsX2_end : List Cond := .code yX2_end cX2_end 1 none :: ([.fieldLink RX2 15 "LoserDraws$Row" "isThere" "Z"] ++ wsX20)
def wsX2_holds : List Cond := .code yX2_holds cX2_holds 3 (some .boolean) :: ([.fieldLink RX2 32 "LoserDraws$Row" "length" "I"] ++ wsX20)
def wsX2_at : List Cond := .code yX2_at cX2_at 2 (some .int) :: ([.fieldLink RX2 9 "LoserDraws$Row" "cells" "[I"] ++ wsX20)
def wsX2_cut : List Cond := .code yX2_cut cX2_cut 2 (some .int) :: ([.fieldLink RX2 19 "LoserDraws$Row" "lane" "I"] ++ wsX20)
def wsX2_set : List Cond := .code yX2_set cX2_set 3 none :: ([.fieldLink RX2 9 "LoserDraws$Row" "cells" "[I", .methodLink RX2 35 yX2_cut, .instanceMethod yX2_cut, .selects RX2 yX2_cut yX2_cut, .initialized RX2, .code yX2_cut cX2_cut 2 (some .int), .fieldLink RX2 19 "LoserDraws$Row" "lane" "I"] ++ wsX20)
def wsX2_has : List Cond := .code yX2_has cX2_has 5 (some .boolean) :: ([.methodLink RX2 39 yX2_at, .instanceMethod yX2_at, .selects RX2 yX2_at yX2_at, .initialized RX2, .code yX2_at cX2_at 2 (some .int), .fieldLink RX2 9 "LoserDraws$Row" "cells" "[I"] ++ wsX20)
def wsX3_isDigit : List Cond := .code yX3_isDigit cX3_isDigit 3 (some .boolean) :: ([])
def wsX3_citizenGoesOnWith : List Cond := .code yX3_citizenGoesOnWith cX3_citizenGoesOnWith 2 (some .boolean) :: ([.methodLink RX3 21 yX3_isDigit, .static yX3_isDigit, .initialized RX3, .code yX3_isDigit cX3_isDigit 3 (some .boolean)])
def wsX3_goesOnWith : List Cond := .code yX3_goesOnWith cX3_goesOnWith 2 (some .boolean) :: ([.methodLink RX3 21 yX3_isDigit, .static yX3_isDigit, .initialized RX3, .code yX3_isDigit cX3_isDigit 3 (some .boolean), .methodLink RX3 25 yX3_citizenGoesOnWith, .static yX3_citizenGoesOnWith, .code yX3_citizenGoesOnWith cX3_citizenGoesOnWith 2 (some .boolean)])
def wsX3_firstFault : List Cond := .code yX3_firstFault cX3_firstFault 4 (some .int) :: ([.instanceMethod yX2_at, .initialized RX2, .selects RX2 yX2_at yX2_at, .code yX2_at cX2_at 2 (some .int), .fieldLink RX2 9 "LoserDraws$Row" "cells" "[I", .methodLink RX3 15 yX3_goesOnWith, .static yX3_goesOnWith, .initialized RX3, .code yX3_goesOnWith cX3_goesOnWith 2 (some .boolean), .methodLink RX3 21 yX3_isDigit, .static yX3_isDigit, .code yX3_isDigit cX3_isDigit 3 (some .boolean), .methodLink RX3 25 yX3_citizenGoesOnWith, .static yX3_citizenGoesOnWith, .code yX3_citizenGoesOnWith cX3_citizenGoesOnWith 2 (some .boolean)] ++ wsX20)
def wsX3_digit : List Cond := .code yX3_digit cX3_digit 1 (some .int) :: ([])
def wsX3_citizensIn : List Cond := .code yX3_citizensIn cX3_citizensIn 1 (some .int) :: ([.methodLink RX3 28 Lib.Math.min.name, .static Lib.Math.min.name, .initialized "java/lang/Math", .code Lib.Math.min.name Lib.Math.min.code 2 (some .int)])
def wsX3_tellCitizen : List Cond := .code yX3_tellCitizen cX3_tellCitizen 4 none :: ([.instanceMethod yX2_at, .initialized RX2, .selects RX2 yX2_at yX2_at, .code yX2_at cX2_at 2 (some .int), .fieldLink RX2 9 "LoserDraws$Row" "cells" "[I", .methodLink RX3 40 yX3_digit, .static yX3_digit, .initialized RX3, .code yX3_digit cX3_digit 1 (some .int)] ++ wsX00 ++ wsX20)
def wsX4_init_r1 : List Cond := [Cond.methodLink RX4 3 objectInit, Cond.instanceMethod objectInit, Cond.code objectInit ⟨#[0xb1]⟩ 1 none, Cond.classLink RX4 11 RX0, Cond.fieldLink RX4 13 "LoserDraws" "citizens" "[LLoserDraws$Citizen;", Cond.arrayClass .int, Cond.fieldLink RX4 17 "LoserDraws" "readings" "[I", Cond.classLink RX4 21 RX2, Cond.fieldLink RX4 23 "LoserDraws" "sheets" "[LLoserDraws$Row;", Cond.classLink RX4 27 RX1, Cond.instantiable RX1 7, Cond.initialized RX1, Cond.fieldLink RX4 30 "LoserDraws" "drum" "LLoserDraws$Drum;", Cond.instantiable RX0 4, Cond.initialized RX0, Cond.instantiable RX2 4, Cond.initialized RX2, Cond.instanceMethod yX1_init, Cond.code yX1_init cX1_init 1 none, Cond.methodLink RX1 3 objectInit, Cond.fieldLink RX1 9 "LoserDraws$Drum" "slips" "[I", Cond.arrayClass .long, Cond.fieldLink RX1 15 "LoserDraws$Drum" "picks" "[J", Cond.fieldLink RX1 19 "LoserDraws$Drum" "freeing" "[J"]
def wsX4_init_r2 : List Cond := [Cond.instanceMethod yX0_init, Cond.code yX0_init cX0_init 1 none, Cond.methodLink RX0 1 objectInit, Cond.instanceMethod yX2_init, Cond.code yX2_init cX2_init 1 none, Cond.methodLink RX2 3 objectInit, Cond.fieldLink RX2 9 "LoserDraws$Row" "cells" "[I"]
def wsX4_init : List Cond := .code yX4_init cX4_init 2 none :: ((wsX4_init_r1 ++ wsX4_init_r2) ++ wsX40 ++ wsX10 ++ wsX00 ++ wsX20)
def wsX4_isSheet : List Cond := .code yX4_isSheet cX4_isSheet 1 (some .boolean) :: ([])
def wsX4_isLane : List Cond := .code yX4_isLane cX4_isLane 1 (some .boolean) :: ([])
def wsX4_placeOf : List Cond := .code yX4_placeOf cX4_placeOf 2 (some (.object "LoserDraws$Row")) :: ([.fieldLink RX4 23 "LoserDraws" "sheets" "[LLoserDraws$Row;", .methodLink RX4 40 yX4_isSheet, .static yX4_isSheet, .initialized RX4, .code yX4_isSheet cX4_isSheet 1 (some .boolean)] ++ wsX40)
def wsX4_rowOf : List Cond := .code yX4_rowOf cX4_rowOf 3 (some (.object "LoserDraws$Row")) :: ([.methodLink RX4 170 yX4_placeOf, .instanceMethod yX4_placeOf, .selects RX4 yX4_placeOf yX4_placeOf, .initialized RX4, .code yX4_placeOf cX4_placeOf 2 (some (.object "LoserDraws$Row")), .fieldLink RX4 23 "LoserDraws" "sheets" "[LLoserDraws$Row;", .methodLink RX4 40 yX4_isSheet, .static yX4_isSheet, .code yX4_isSheet cX4_isSheet 1 (some .boolean)] ++ wsX20 ++ wsX40)
def wsX4_faultOf : List Cond := .code yX4_faultOf cX4_faultOf 4 (some .int) :: ([.instanceMethod yX2_holds, .initialized RX2, .selects RX2 yX2_holds yX2_holds, .code yX2_holds cX2_holds 3 (some .boolean), .fieldLink RX2 32 "LoserDraws$Row" "length" "I"] ++ wsX20)
def wsX4_faulted : List Cond := .code yX4_faulted cX4_faulted 2 (some .int) :: ([.fieldLink RX4 36 "LoserDraws" "lastFault" "I"] ++ wsX40)
def wsX4_citizen : List Cond := .code yX4_citizen cX4_citizen 2 (some (.object "LoserDraws$Citizen")) :: ([.fieldLink RX4 69 "LoserDraws" "people" "I", .fieldLink RX4 13 "LoserDraws" "citizens" "[LLoserDraws$Citizen;"] ++ wsX40)
def wsX4_takeText_r1 : List Cond := [Cond.fieldLink RX4 69 "LoserDraws" "people" "I", Cond.fieldLink RX4 96 "LoserDraws" "drawnNow" "I", Cond.fieldLink RX4 99 "LoserDraws" "priceNow" "I", Cond.fieldLink RX4 160 "LoserDraws" "readingsKept" "I", Cond.static yX3_citizensIn, Cond.initialized RX3, Cond.code yX3_citizensIn cX3_citizensIn 1 (some .int), Cond.methodLink RX3 28 Lib.Math.min.name, Cond.static Lib.Math.min.name, Cond.initialized "java/lang/Math", Cond.code Lib.Math.min.name Lib.Math.min.code 2 (some .int), Cond.instanceMethod yX2_at, Cond.initialized RX2, Cond.selects RX2 yX2_at yX2_at, Cond.code yX2_at cX2_at 2 (some .int), Cond.fieldLink RX2 9 "LoserDraws$Row" "cells" "[I", Cond.static yX3_digit, Cond.code yX3_digit cX3_digit 1 (some .int), Cond.methodLink RX4 72 yX4_citizen, Cond.instanceMethod yX4_citizen, Cond.selects RX4 yX4_citizen yX4_citizen, Cond.initialized RX4, Cond.code yX4_citizen cX4_citizen 2 (some (.object "LoserDraws$Citizen")), Cond.fieldLink RX4 13 "LoserDraws" "citizens" "[LLoserDraws$Citizen;"]
def wsX4_takeText_r2 : List Cond := [Cond.static yX3_tellCitizen, Cond.code yX3_tellCitizen cX3_tellCitizen 4 none, Cond.methodLink RX3 40 yX3_digit]
def wsX4_takeText : List Cond := .code yX4_takeText cX4_takeText 6 none :: ((wsX4_takeText_r1 ++ wsX4_takeText_r2) ++ wsX40 ++ wsX20 ++ wsX00)
def wsX4_republic_r1 : List Cond := [Cond.fieldLink RX4 36 "LoserDraws" "lastFault" "I", Cond.fieldLink RX4 69 "LoserDraws" "people" "I", Cond.methodLink RX4 40 yX4_isSheet, Cond.static yX4_isSheet, Cond.initialized RX4, Cond.code yX4_isSheet cX4_isSheet 1 (some .boolean), Cond.methodLink RX4 44 yX4_isLane, Cond.static yX4_isLane, Cond.code yX4_isLane cX4_isLane 1 (some .boolean), Cond.methodLink RX4 47 yX4_rowOf, Cond.instanceMethod yX4_rowOf, Cond.selects RX4 yX4_rowOf yX4_rowOf, Cond.code yX4_rowOf cX4_rowOf 3 (some (.object "LoserDraws$Row")), Cond.methodLink RX4 170 yX4_placeOf, Cond.instanceMethod yX4_placeOf, Cond.selects RX4 yX4_placeOf yX4_placeOf, Cond.code yX4_placeOf cX4_placeOf 2 (some (.object "LoserDraws$Row")), Cond.fieldLink RX4 23 "LoserDraws" "sheets" "[LLoserDraws$Row;", Cond.methodLink RX4 51 yX4_faultOf, Cond.static yX4_faultOf, Cond.code yX4_faultOf cX4_faultOf 4 (some .int), Cond.instanceMethod yX2_holds, Cond.initialized RX2, Cond.selects RX2 yX2_holds yX2_holds]
def wsX4_republic_r2 : List Cond := [Cond.code yX2_holds cX2_holds 3 (some .boolean), Cond.fieldLink RX2 32 "LoserDraws$Row" "length" "I", Cond.methodLink RX4 55 yX4_faulted, Cond.instanceMethod yX4_faulted, Cond.selects RX4 yX4_faulted yX4_faulted, Cond.code yX4_faulted cX4_faulted 2 (some .int), Cond.static yX3_firstFault, Cond.initialized RX3, Cond.code yX3_firstFault cX3_firstFault 4 (some .int), Cond.instanceMethod yX2_at, Cond.selects RX2 yX2_at yX2_at, Cond.code yX2_at cX2_at 2 (some .int), Cond.fieldLink RX2 9 "LoserDraws$Row" "cells" "[I", Cond.methodLink RX3 15 yX3_goesOnWith, Cond.static yX3_goesOnWith, Cond.code yX3_goesOnWith cX3_goesOnWith 2 (some .boolean), Cond.methodLink RX3 21 yX3_isDigit, Cond.static yX3_isDigit, Cond.code yX3_isDigit cX3_isDigit 3 (some .boolean), Cond.methodLink RX3 25 yX3_citizenGoesOnWith, Cond.static yX3_citizenGoesOnWith, Cond.code yX3_citizenGoesOnWith cX3_citizenGoesOnWith 2 (some .boolean), Cond.methodLink RX4 65 yX4_takeText, Cond.instanceMethod yX4_takeText]
def wsX4_republic_r3 : List Cond := [Cond.selects RX4 yX4_takeText yX4_takeText, Cond.code yX4_takeText cX4_takeText 6 none, Cond.fieldLink RX4 96 "LoserDraws" "drawnNow" "I", Cond.fieldLink RX4 99 "LoserDraws" "priceNow" "I", Cond.fieldLink RX4 160 "LoserDraws" "readingsKept" "I", Cond.static yX3_citizensIn, Cond.code yX3_citizensIn cX3_citizensIn 1 (some .int), Cond.methodLink RX3 28 Lib.Math.min.name, Cond.static Lib.Math.min.name, Cond.initialized "java/lang/Math", Cond.code Lib.Math.min.name Lib.Math.min.code 2 (some .int), Cond.static yX3_digit, Cond.code yX3_digit cX3_digit 1 (some .int), Cond.methodLink RX4 72 yX4_citizen, Cond.instanceMethod yX4_citizen, Cond.selects RX4 yX4_citizen yX4_citizen, Cond.code yX4_citizen cX4_citizen 2 (some (.object "LoserDraws$Citizen")), Cond.fieldLink RX4 13 "LoserDraws" "citizens" "[LLoserDraws$Citizen;", Cond.static yX3_tellCitizen, Cond.code yX3_tellCitizen cX3_tellCitizen 4 none, Cond.methodLink RX3 40 yX3_digit]
def wsX4_republic : List Cond := .code yX4_republic cX4_republic 8 (some .int) :: ((wsX4_republic_r1 ++ (wsX4_republic_r2 ++ wsX4_republic_r3)) ++ wsX40 ++ wsX20 ++ wsX00)
def wsX4_slipsAhead : List Cond := .code yX4_slipsAhead cX4_slipsAhead 5 (some .int) :: ([.methodLink RX4 72 yX4_citizen, .instanceMethod yX4_citizen, .selects RX4 yX4_citizen yX4_citizen, .initialized RX4, .code yX4_citizen cX4_citizen 2 (some (.object "LoserDraws$Citizen")), .fieldLink RX4 69 "LoserDraws" "people" "I", .fieldLink RX4 13 "LoserDraws" "citizens" "[LLoserDraws$Citizen;", .instanceMethod yX0_slips, .initialized RX0, .selects RX0 yX0_slips yX0_slips, .code yX0_slips cX0_slips 1 (some .int), .fieldLink RX0 7 "LoserDraws$Citizen" "kind" "I", .fieldLink RX0 13 "LoserDraws$Citizen" "tickets" "I", .static yX4_slipsOf, .code yX4_slipsOf cX4_slipsOf 3 (some .int)] ++ wsX40 ++ wsX00)
def wsX4_ofCitizen : List Cond := .code yX4_ofCitizen cX4_ofCitizen 4 (some .int) :: ([.methodLink RX4 72 yX4_citizen, .instanceMethod yX4_citizen, .selects RX4 yX4_citizen yX4_citizen, .initialized RX4, .code yX4_citizen cX4_citizen 2 (some (.object "LoserDraws$Citizen")), .fieldLink RX4 69 "LoserDraws" "people" "I", .fieldLink RX4 13 "LoserDraws" "citizens" "[LLoserDraws$Citizen;", .instanceMethod yX0_slips, .initialized RX0, .selects RX0 yX0_slips yX0_slips, .code yX0_slips cX0_slips 1 (some .int), .fieldLink RX0 7 "LoserDraws$Citizen" "kind" "I", .fieldLink RX0 13 "LoserDraws$Citizen" "tickets" "I", .static yX4_slipsOf, .code yX4_slipsOf cX4_slipsOf 3 (some .int), .methodLink RX4 93 yX4_slipsAhead, .instanceMethod yX4_slipsAhead, .selects RX4 yX4_slipsAhead yX4_slipsAhead, .code yX4_slipsAhead cX4_slipsAhead 5 (some .int)] ++ wsX00 ++ wsX40)
def wsX4_drawn : List Cond := .code yX4_drawn cX4_drawn 3 (some .int) :: ([.fieldLink RX4 69 "LoserDraws" "people" "I", .fieldLink RX4 96 "LoserDraws" "drawnNow" "I"] ++ wsX40)
def wsX4_price : List Cond := .code yX4_price cX4_price 3 (some .int) :: ([.fieldLink RX4 69 "LoserDraws" "people" "I", .fieldLink RX4 99 "LoserDraws" "priceNow" "I"] ++ wsX40)
def wsX4_wish : List Cond := .code yX4_wish cX4_wish 4 (some .int) :: ([.methodLink RX4 72 yX4_citizen, .instanceMethod yX4_citizen, .selects RX4 yX4_citizen yX4_citizen, .initialized RX4, .code yX4_citizen cX4_citizen 2 (some (.object "LoserDraws$Citizen")), .fieldLink RX4 69 "LoserDraws" "people" "I", .fieldLink RX4 13 "LoserDraws" "citizens" "[LLoserDraws$Citizen;"] ++ wsX00 ++ wsX40)
def wsX4_ownerOf : List Cond := .code yX4_ownerOf cX4_ownerOf 5 (some .int) :: ([.fieldLink RX4 69 "LoserDraws" "people" "I", .methodLink RX4 72 yX4_citizen, .instanceMethod yX4_citizen, .selects RX4 yX4_citizen yX4_citizen, .initialized RX4, .code yX4_citizen cX4_citizen 2 (some (.object "LoserDraws$Citizen")), .fieldLink RX4 13 "LoserDraws" "citizens" "[LLoserDraws$Citizen;", .instanceMethod yX0_slips, .initialized RX0, .selects RX0 yX0_slips yX0_slips, .code yX0_slips cX0_slips 1 (some .int), .fieldLink RX0 7 "LoserDraws$Citizen" "kind" "I", .fieldLink RX0 13 "LoserDraws$Citizen" "tickets" "I", .static yX4_slipsOf, .code yX4_slipsOf cX4_slipsOf 3 (some .int)] ++ wsX40 ++ wsX00)
def wsX4_firstWrong_r1 : List Cond := [Cond.instanceMethod yX2_at, Cond.initialized RX2, Cond.selects RX2 yX2_at yX2_at, Cond.code yX2_at cX2_at 2 (some .int), Cond.fieldLink RX2 9 "LoserDraws$Row" "cells" "[I", Cond.methodLink RX4 229 yX4_ownerOf, Cond.instanceMethod yX4_ownerOf, Cond.selects RX4 yX4_ownerOf yX4_ownerOf, Cond.initialized RX4, Cond.code yX4_ownerOf cX4_ownerOf 5 (some .int), Cond.fieldLink RX4 69 "LoserDraws" "people" "I", Cond.methodLink RX4 72 yX4_citizen, Cond.instanceMethod yX4_citizen, Cond.selects RX4 yX4_citizen yX4_citizen, Cond.code yX4_citizen cX4_citizen 2 (some (.object "LoserDraws$Citizen")), Cond.fieldLink RX4 13 "LoserDraws" "citizens" "[LLoserDraws$Citizen;", Cond.instanceMethod yX0_slips, Cond.initialized RX0, Cond.selects RX0 yX0_slips yX0_slips, Cond.code yX0_slips cX0_slips 1 (some .int), Cond.fieldLink RX0 7 "LoserDraws$Citizen" "kind" "I", Cond.fieldLink RX0 13 "LoserDraws$Citizen" "tickets" "I", Cond.static yX4_slipsOf, Cond.code yX4_slipsOf cX4_slipsOf 3 (some .int)]
def wsX4_firstWrong_r2 : List Cond := [Cond.instanceMethod yX2_has, Cond.selects RX2 yX2_has yX2_has, Cond.code yX2_has cX2_has 5 (some .boolean), Cond.methodLink RX2 39 yX2_at]
def wsX4_firstWrong : List Cond := .code yX4_firstWrong cX4_firstWrong 6 (some .int) :: ((wsX4_firstWrong_r1 ++ wsX4_firstWrong_r2) ++ wsX20 ++ wsX40 ++ wsX00)
def wsX4_rulersBy : List Cond := .code yX4_rulersBy cX4_rulersBy 7 (some .int) :: ([.fieldLink RX4 69 "LoserDraws" "people" "I", .instanceMethod yX2_at, .initialized RX2, .selects RX2 yX2_at yX2_at, .code yX2_at cX2_at 2 (some .int), .fieldLink RX2 9 "LoserDraws$Row" "cells" "[I", .methodLink RX4 229 yX4_ownerOf, .instanceMethod yX4_ownerOf, .selects RX4 yX4_ownerOf yX4_ownerOf, .initialized RX4, .code yX4_ownerOf cX4_ownerOf 5 (some .int), .methodLink RX4 72 yX4_citizen, .instanceMethod yX4_citizen, .selects RX4 yX4_citizen yX4_citizen, .code yX4_citizen cX4_citizen 2 (some (.object "LoserDraws$Citizen")), .fieldLink RX4 13 "LoserDraws" "citizens" "[LLoserDraws$Citizen;", .instanceMethod yX0_slips, .initialized RX0, .selects RX0 yX0_slips yX0_slips, .code yX0_slips cX0_slips 1 (some .int), .fieldLink RX0 7 "LoserDraws$Citizen" "kind" "I", .fieldLink RX0 13 "LoserDraws$Citizen" "tickets" "I", .static yX4_slipsOf, .code yX4_slipsOf cX4_slipsOf 3 (some .int)] ++ wsX40 ++ wsX20 ++ wsX00)
def wsX4_fillDrum_r1 : List Cond := [Cond.fieldLink RX4 30 "LoserDraws" "drum" "LLoserDraws$Drum;", Cond.fieldLink RX4 69 "LoserDraws" "people" "I", Cond.fieldLink RX4 96 "LoserDraws" "drawnNow" "I", Cond.instanceMethod yX1_empty, Cond.initialized RX1, Cond.selects RX1 yX1_empty yX1_empty, Cond.code yX1_empty cX1_empty 4 none, Cond.methodLink RX1 22 Lib.Math.min.name, Cond.static Lib.Math.min.name, Cond.initialized "java/lang/Math", Cond.code Lib.Math.min.name Lib.Math.min.code 2 (some .int), Cond.methodLink RX1 28 Lib.Math.max.name, Cond.static Lib.Math.max.name, Cond.code Lib.Math.max.name Lib.Math.max.code 2 (some .int), Cond.fieldLink RX1 31 "LoserDraws$Drum" "people" "I", Cond.fieldLink RX1 35 "LoserDraws$Drum" "wishers" "I", Cond.fieldLink RX1 38 "LoserDraws$Drum" "total" "I", Cond.fieldLink RX1 9 "LoserDraws$Drum" "slips" "[I", Cond.methodLink RX1 41 yX1_setDrawn, Cond.instanceMethod yX1_setDrawn, Cond.selects RX1 yX1_setDrawn yX1_setDrawn, Cond.code yX1_setDrawn cX1_setDrawn 2 none, Cond.fieldLink RX1 45 "LoserDraws$Drum" "drawn" "I", Cond.methodLink RX4 72 yX4_citizen]
def wsX4_fillDrum_r2 : List Cond := [Cond.instanceMethod yX4_citizen, Cond.selects RX4 yX4_citizen yX4_citizen, Cond.initialized RX4, Cond.code yX4_citizen cX4_citizen 2 (some (.object "LoserDraws$Citizen")), Cond.fieldLink RX4 13 "LoserDraws" "citizens" "[LLoserDraws$Citizen;", Cond.instanceMethod yX0_slips, Cond.initialized RX0, Cond.selects RX0 yX0_slips yX0_slips, Cond.code yX0_slips cX0_slips 1 (some .int), Cond.fieldLink RX0 7 "LoserDraws$Citizen" "kind" "I", Cond.fieldLink RX0 13 "LoserDraws$Citizen" "tickets" "I", Cond.static yX4_slipsOf, Cond.code yX4_slipsOf cX4_slipsOf 3 (some .int), Cond.instanceMethod yX1_setSlips, Cond.selects RX1 yX1_setSlips yX1_setSlips, Cond.code yX1_setSlips cX1_setSlips 5 none, Cond.fieldLink RX1 15 "LoserDraws$Drum" "picks" "[J", Cond.methodLink RX1 48 yX1_choose, Cond.static yX1_choose, Cond.code yX1_choose cX1_choose 5 (some .long), Cond.instanceMethod yX1_setWishes, Cond.selects RX1 yX1_setWishes yX1_setWishes, Cond.code yX1_setWishes cX1_setWishes 4 none]
def wsX4_fillDrum : List Cond := .code yX4_fillDrum cX4_fillDrum 3 none :: ((wsX4_fillDrum_r1 ++ wsX4_fillDrum_r2) ++ wsX40 ++ wsX00 ++ wsX10)
def wsX4_draw_r1 : List Cond := [Cond.fieldLink RX4 36 "LoserDraws" "lastFault" "I", Cond.fieldLink RX4 69 "LoserDraws" "people" "I", Cond.fieldLink RX4 30 "LoserDraws" "drum" "LLoserDraws$Drum;", Cond.methodLink RX4 40 yX4_isSheet, Cond.static yX4_isSheet, Cond.initialized RX4, Cond.code yX4_isSheet cX4_isSheet 1 (some .boolean), Cond.methodLink RX4 44 yX4_isLane, Cond.static yX4_isLane, Cond.code yX4_isLane cX4_isLane 1 (some .boolean), Cond.methodLink RX4 47 yX4_rowOf, Cond.instanceMethod yX4_rowOf, Cond.selects RX4 yX4_rowOf yX4_rowOf, Cond.code yX4_rowOf cX4_rowOf 3 (some (.object "LoserDraws$Row")), Cond.methodLink RX4 170 yX4_placeOf, Cond.instanceMethod yX4_placeOf, Cond.selects RX4 yX4_placeOf yX4_placeOf, Cond.code yX4_placeOf cX4_placeOf 2 (some (.object "LoserDraws$Row")), Cond.fieldLink RX4 23 "LoserDraws" "sheets" "[LLoserDraws$Row;", Cond.methodLink RX4 51 yX4_faultOf, Cond.static yX4_faultOf, Cond.code yX4_faultOf cX4_faultOf 4 (some .int), Cond.instanceMethod yX2_holds, Cond.initialized RX2]
def wsX4_draw_r2 : List Cond := [Cond.selects RX2 yX2_holds yX2_holds, Cond.code yX2_holds cX2_holds 3 (some .boolean), Cond.fieldLink RX2 32 "LoserDraws$Row" "length" "I", Cond.methodLink RX4 55 yX4_faulted, Cond.instanceMethod yX4_faulted, Cond.selects RX4 yX4_faulted yX4_faulted, Cond.code yX4_faulted cX4_faulted 2 (some .int), Cond.methodLink RX4 102 yX4_firstWrong, Cond.instanceMethod yX4_firstWrong, Cond.selects RX4 yX4_firstWrong yX4_firstWrong, Cond.code yX4_firstWrong cX4_firstWrong 6 (some .int), Cond.instanceMethod yX2_at, Cond.selects RX2 yX2_at yX2_at, Cond.code yX2_at cX2_at 2 (some .int), Cond.fieldLink RX2 9 "LoserDraws$Row" "cells" "[I", Cond.methodLink RX4 229 yX4_ownerOf, Cond.instanceMethod yX4_ownerOf, Cond.selects RX4 yX4_ownerOf yX4_ownerOf, Cond.code yX4_ownerOf cX4_ownerOf 5 (some .int), Cond.methodLink RX4 72 yX4_citizen, Cond.instanceMethod yX4_citizen, Cond.selects RX4 yX4_citizen yX4_citizen, Cond.code yX4_citizen cX4_citizen 2 (some (.object "LoserDraws$Citizen")), Cond.fieldLink RX4 13 "LoserDraws" "citizens" "[LLoserDraws$Citizen;"]
def wsX4_draw_r3 : List Cond := [Cond.instanceMethod yX0_slips, Cond.initialized RX0, Cond.selects RX0 yX0_slips yX0_slips, Cond.code yX0_slips cX0_slips 1 (some .int), Cond.fieldLink RX0 7 "LoserDraws$Citizen" "kind" "I", Cond.fieldLink RX0 13 "LoserDraws$Citizen" "tickets" "I", Cond.static yX4_slipsOf, Cond.code yX4_slipsOf cX4_slipsOf 3 (some .int), Cond.instanceMethod yX2_has, Cond.selects RX2 yX2_has yX2_has, Cond.code yX2_has cX2_has 5 (some .boolean), Cond.methodLink RX2 39 yX2_at, Cond.methodLink RX4 105 yX4_rulersBy, Cond.instanceMethod yX4_rulersBy, Cond.selects RX4 yX4_rulersBy yX4_rulersBy, Cond.code yX4_rulersBy cX4_rulersBy 7 (some .int), Cond.methodLink RX4 108 yX4_fillDrum, Cond.instanceMethod yX4_fillDrum, Cond.selects RX4 yX4_fillDrum yX4_fillDrum, Cond.code yX4_fillDrum cX4_fillDrum 3 none, Cond.fieldLink RX4 96 "LoserDraws" "drawnNow" "I", Cond.instanceMethod yX1_empty, Cond.initialized RX1, Cond.selects RX1 yX1_empty yX1_empty]
def wsX4_draw_r4 : List Cond := [Cond.code yX1_empty cX1_empty 4 none, Cond.methodLink RX1 22 Lib.Math.min.name, Cond.static Lib.Math.min.name, Cond.initialized "java/lang/Math", Cond.code Lib.Math.min.name Lib.Math.min.code 2 (some .int), Cond.methodLink RX1 28 Lib.Math.max.name, Cond.static Lib.Math.max.name, Cond.code Lib.Math.max.name Lib.Math.max.code 2 (some .int), Cond.fieldLink RX1 31 "LoserDraws$Drum" "people" "I", Cond.fieldLink RX1 35 "LoserDraws$Drum" "wishers" "I", Cond.fieldLink RX1 38 "LoserDraws$Drum" "total" "I", Cond.fieldLink RX1 9 "LoserDraws$Drum" "slips" "[I", Cond.methodLink RX1 41 yX1_setDrawn, Cond.instanceMethod yX1_setDrawn, Cond.selects RX1 yX1_setDrawn yX1_setDrawn, Cond.code yX1_setDrawn cX1_setDrawn 2 none, Cond.fieldLink RX1 45 "LoserDraws$Drum" "drawn" "I", Cond.instanceMethod yX1_setSlips, Cond.selects RX1 yX1_setSlips yX1_setSlips, Cond.code yX1_setSlips cX1_setSlips 5 none, Cond.fieldLink RX1 15 "LoserDraws$Drum" "picks" "[J", Cond.methodLink RX1 48 yX1_choose, Cond.static yX1_choose, Cond.code yX1_choose cX1_choose 5 (some .long)]
def wsX4_draw_r5 : List Cond := [Cond.instanceMethod yX1_setWishes, Cond.selects RX1 yX1_setWishes yX1_setWishes, Cond.code yX1_setWishes cX1_setWishes 4 none, Cond.instanceMethod yX1_passesUnder, Cond.selects RX1 yX1_passesUnder yX1_passesUnder, Cond.code yX1_passesUnder cX1_passesUnder 2 (some .boolean), Cond.methodLink RX1 73 yJ6_bitCount_0f7a4, Cond.static yJ6_bitCount_0f7a4, Cond.initialized RJ6, Cond.code yJ6_bitCount_0f7a4 cJ6_bitCount_0f7a4 1 (some .int), Cond.constant RJ6 265 (1431655765), Cond.constant RJ6 266 (858993459), Cond.constant RJ6 267 (252645135)]
def wsX4_draw : List Cond := .code yX4_draw cX4_draw 10 (some .int) :: ((wsX4_draw_r1 ++ (wsX4_draw_r2 ++ (wsX4_draw_r3 ++ (wsX4_draw_r4 ++ wsX4_draw_r5)))) ++ wsX40 ++ wsX20 ++ wsX00 ++ wsX10)
def wsX4_isWhich : List Cond := .code yX4_isWhich cX4_isWhich 1 (some .boolean) :: ([])
def wsX4_partOf : List Cond := .code yX4_partOf cX4_partOf 12 (some .long) :: ([])
def wsX4_rules_r1 : List Cond := [Cond.constantLong RX4 117 (-9223372036854775808), Cond.fieldLink RX4 30 "LoserDraws" "drum" "LLoserDraws$Drum;", Cond.methodLink RX4 72 yX4_citizen, Cond.instanceMethod yX4_citizen, Cond.selects RX4 yX4_citizen yX4_citizen, Cond.initialized RX4, Cond.code yX4_citizen cX4_citizen 2 (some (.object "LoserDraws$Citizen")), Cond.fieldLink RX4 69 "LoserDraws" "people" "I", Cond.fieldLink RX4 13 "LoserDraws" "citizens" "[LLoserDraws$Citizen;", Cond.methodLink RX4 114 yX4_isWhich, Cond.static yX4_isWhich, Cond.code yX4_isWhich cX4_isWhich 1 (some .boolean), Cond.methodLink RX4 108 yX4_fillDrum, Cond.instanceMethod yX4_fillDrum, Cond.selects RX4 yX4_fillDrum yX4_fillDrum, Cond.code yX4_fillDrum cX4_fillDrum 3 none, Cond.fieldLink RX4 96 "LoserDraws" "drawnNow" "I", Cond.instanceMethod yX1_empty, Cond.initialized RX1, Cond.selects RX1 yX1_empty yX1_empty, Cond.code yX1_empty cX1_empty 4 none, Cond.methodLink RX1 22 Lib.Math.min.name, Cond.static Lib.Math.min.name, Cond.initialized "java/lang/Math"]
def wsX4_rules_r2 : List Cond := [Cond.code Lib.Math.min.name Lib.Math.min.code 2 (some .int), Cond.methodLink RX1 28 Lib.Math.max.name, Cond.static Lib.Math.max.name, Cond.code Lib.Math.max.name Lib.Math.max.code 2 (some .int), Cond.fieldLink RX1 31 "LoserDraws$Drum" "people" "I", Cond.fieldLink RX1 35 "LoserDraws$Drum" "wishers" "I", Cond.fieldLink RX1 38 "LoserDraws$Drum" "total" "I", Cond.fieldLink RX1 9 "LoserDraws$Drum" "slips" "[I", Cond.methodLink RX1 41 yX1_setDrawn, Cond.instanceMethod yX1_setDrawn, Cond.selects RX1 yX1_setDrawn yX1_setDrawn, Cond.code yX1_setDrawn cX1_setDrawn 2 none, Cond.fieldLink RX1 45 "LoserDraws$Drum" "drawn" "I", Cond.instanceMethod yX0_slips, Cond.initialized RX0, Cond.selects RX0 yX0_slips yX0_slips, Cond.code yX0_slips cX0_slips 1 (some .int), Cond.fieldLink RX0 7 "LoserDraws$Citizen" "kind" "I", Cond.fieldLink RX0 13 "LoserDraws$Citizen" "tickets" "I", Cond.static yX4_slipsOf, Cond.code yX4_slipsOf cX4_slipsOf 3 (some .int), Cond.instanceMethod yX1_setSlips, Cond.selects RX1 yX1_setSlips yX1_setSlips, Cond.code yX1_setSlips cX1_setSlips 5 none]
def wsX4_rules_r3 : List Cond := [Cond.fieldLink RX1 15 "LoserDraws$Drum" "picks" "[J", Cond.methodLink RX1 48 yX1_choose, Cond.static yX1_choose, Cond.code yX1_choose cX1_choose 5 (some .long), Cond.instanceMethod yX1_setWishes, Cond.selects RX1 yX1_setWishes yX1_setWishes, Cond.code yX1_setWishes cX1_setWishes 4 none, Cond.instanceMethod yX1_drawsSparing, Cond.selects RX1 yX1_drawsSparing yX1_drawsSparing, Cond.code yX1_drawsSparing cX1_drawsSparing 2 (some .long), Cond.methodLink RX1 56 yX1_slipsOfOne, Cond.instanceMethod yX1_slipsOfOne, Cond.selects RX1 yX1_slipsOfOne yX1_slipsOfOne, Cond.code yX1_slipsOfOne cX1_slipsOfOne 2 (some .int), Cond.methodLink RX1 52 yX1_taken, Cond.instanceMethod yX1_taken, Cond.selects RX1 yX1_taken yX1_taken, Cond.code yX1_taken cX1_taken 1 (some .int), Cond.instanceMethod yX1_draws, Cond.selects RX1 yX1_draws yX1_draws, Cond.code yX1_draws cX1_draws 1 (some .long), Cond.methodLink RX4 127 yX4_partOf, Cond.static yX4_partOf, Cond.code yX4_partOf cX4_partOf 12 (some .long)]
def wsX4_rules : List Cond := .code yX4_rules cX4_rules 3 (some .long) :: ((wsX4_rules_r1 ++ (wsX4_rules_r2 ++ wsX4_rules_r3)) ++ wsX40 ++ wsX00 ++ wsX10)
def wsX4_isSet : List Cond := .code yX4_isSet cX4_isSet 2 (some .boolean) :: ([.fieldLink RX4 69 "LoserDraws" "people" "I"] ++ wsX40)
def wsX4_just_r1 : List Cond := [Cond.fieldLink RX4 69 "LoserDraws" "people" "I", Cond.constantLong RX4 117 (-9223372036854775808), Cond.fieldLink RX4 30 "LoserDraws" "drum" "LLoserDraws$Drum;", Cond.methodLink RX4 131 yX4_isSet, Cond.instanceMethod yX4_isSet, Cond.selects RX4 yX4_isSet yX4_isSet, Cond.initialized RX4, Cond.code yX4_isSet cX4_isSet 2 (some .boolean), Cond.methodLink RX4 114 yX4_isWhich, Cond.static yX4_isWhich, Cond.code yX4_isWhich cX4_isWhich 1 (some .boolean), Cond.methodLink RX4 108 yX4_fillDrum, Cond.instanceMethod yX4_fillDrum, Cond.selects RX4 yX4_fillDrum yX4_fillDrum, Cond.code yX4_fillDrum cX4_fillDrum 3 none, Cond.fieldLink RX4 96 "LoserDraws" "drawnNow" "I", Cond.instanceMethod yX1_empty, Cond.initialized RX1, Cond.selects RX1 yX1_empty yX1_empty, Cond.code yX1_empty cX1_empty 4 none, Cond.methodLink RX1 22 Lib.Math.min.name, Cond.static Lib.Math.min.name, Cond.initialized "java/lang/Math", Cond.code Lib.Math.min.name Lib.Math.min.code 2 (some .int)]
def wsX4_just_r2 : List Cond := [Cond.methodLink RX1 28 Lib.Math.max.name, Cond.static Lib.Math.max.name, Cond.code Lib.Math.max.name Lib.Math.max.code 2 (some .int), Cond.fieldLink RX1 31 "LoserDraws$Drum" "people" "I", Cond.fieldLink RX1 35 "LoserDraws$Drum" "wishers" "I", Cond.fieldLink RX1 38 "LoserDraws$Drum" "total" "I", Cond.fieldLink RX1 9 "LoserDraws$Drum" "slips" "[I", Cond.methodLink RX1 41 yX1_setDrawn, Cond.instanceMethod yX1_setDrawn, Cond.selects RX1 yX1_setDrawn yX1_setDrawn, Cond.code yX1_setDrawn cX1_setDrawn 2 none, Cond.fieldLink RX1 45 "LoserDraws$Drum" "drawn" "I", Cond.methodLink RX4 72 yX4_citizen, Cond.instanceMethod yX4_citizen, Cond.selects RX4 yX4_citizen yX4_citizen, Cond.code yX4_citizen cX4_citizen 2 (some (.object "LoserDraws$Citizen")), Cond.fieldLink RX4 13 "LoserDraws" "citizens" "[LLoserDraws$Citizen;", Cond.instanceMethod yX0_slips, Cond.initialized RX0, Cond.selects RX0 yX0_slips yX0_slips, Cond.code yX0_slips cX0_slips 1 (some .int), Cond.fieldLink RX0 7 "LoserDraws$Citizen" "kind" "I", Cond.fieldLink RX0 13 "LoserDraws$Citizen" "tickets" "I", Cond.static yX4_slipsOf]
def wsX4_just_r3 : List Cond := [Cond.code yX4_slipsOf cX4_slipsOf 3 (some .int), Cond.instanceMethod yX1_setSlips, Cond.selects RX1 yX1_setSlips yX1_setSlips, Cond.code yX1_setSlips cX1_setSlips 5 none, Cond.fieldLink RX1 15 "LoserDraws$Drum" "picks" "[J", Cond.methodLink RX1 48 yX1_choose, Cond.static yX1_choose, Cond.code yX1_choose cX1_choose 5 (some .long), Cond.instanceMethod yX1_setWishes, Cond.selects RX1 yX1_setWishes yX1_setWishes, Cond.code yX1_setWishes cX1_setWishes 4 none, Cond.instanceMethod yX1_drawsLeavingJust, Cond.selects RX1 yX1_drawsLeavingJust yX1_drawsLeavingJust, Cond.code yX1_drawsLeavingJust cX1_drawsLeavingJust 2 (some .long), Cond.methodLink RX1 60 yX1_countFreeing, Cond.instanceMethod yX1_countFreeing, Cond.selects RX1 yX1_countFreeing yX1_countFreeing, Cond.code yX1_countFreeing cX1_countFreeing 3 none, Cond.methodLink RX1 87 yX1_countFreeingWith, Cond.instanceMethod yX1_countFreeingWith, Cond.selects RX1 yX1_countFreeingWith yX1_countFreeingWith, Cond.code yX1_countFreeingWith cX1_countFreeingWith 7 none, Cond.fieldLink RX1 19 "LoserDraws$Drum" "freeing" "[J", Cond.methodLink RX1 52 yX1_taken]
def wsX4_just_r4 : List Cond := [Cond.instanceMethod yX1_taken, Cond.selects RX1 yX1_taken yX1_taken, Cond.code yX1_taken cX1_taken 1 (some .int), Cond.methodLink RX1 73 yJ6_bitCount_0f7a4, Cond.static yJ6_bitCount_0f7a4, Cond.initialized RJ6, Cond.code yJ6_bitCount_0f7a4 cJ6_bitCount_0f7a4 1 (some .int), Cond.constant RJ6 265 (1431655765), Cond.constant RJ6 266 (858993459), Cond.constant RJ6 267 (252645135), Cond.methodLink RX1 91 yX1_waysWithLast, Cond.instanceMethod yX1_waysWithLast, Cond.selects RX1 yX1_waysWithLast yX1_waysWithLast, Cond.code yX1_waysWithLast cX1_waysWithLast 10 (some .long), Cond.methodLink RX1 63 yX1_everybody, Cond.instanceMethod yX1_everybody, Cond.selects RX1 yX1_everybody yX1_everybody, Cond.code yX1_everybody cX1_everybody 1 (some .int), Cond.methodLink RX1 66 yX1_freeingBy, Cond.instanceMethod yX1_freeingBy, Cond.selects RX1 yX1_freeingBy yX1_freeingBy, Cond.code yX1_freeingBy cX1_freeingBy 4 (some .long), Cond.instanceMethod yX1_draws, Cond.selects RX1 yX1_draws yX1_draws]
def wsX4_just_r5 : List Cond := [Cond.code yX1_draws cX1_draws 1 (some .long), Cond.methodLink RX4 127 yX4_partOf, Cond.static yX4_partOf, Cond.code yX4_partOf cX4_partOf 12 (some .long)]
def wsX4_just : List Cond := .code yX4_just cX4_just 3 (some .long) :: ((wsX4_just_r1 ++ (wsX4_just_r2 ++ (wsX4_just_r3 ++ (wsX4_just_r4 ++ wsX4_just_r5)))) ++ wsX40 ++ wsX00 ++ wsX10)
def wsX4_mean_r1 : List Cond := [Cond.fieldLink RX4 69 "LoserDraws" "people" "I", Cond.constantLong RX4 117 (-9223372036854775808), Cond.fieldLink RX4 30 "LoserDraws" "drum" "LLoserDraws$Drum;", Cond.methodLink RX4 114 yX4_isWhich, Cond.static yX4_isWhich, Cond.initialized RX4, Cond.code yX4_isWhich cX4_isWhich 1 (some .boolean), Cond.methodLink RX4 108 yX4_fillDrum, Cond.instanceMethod yX4_fillDrum, Cond.selects RX4 yX4_fillDrum yX4_fillDrum, Cond.code yX4_fillDrum cX4_fillDrum 3 none, Cond.fieldLink RX4 96 "LoserDraws" "drawnNow" "I", Cond.instanceMethod yX1_empty, Cond.initialized RX1, Cond.selects RX1 yX1_empty yX1_empty, Cond.code yX1_empty cX1_empty 4 none, Cond.methodLink RX1 22 Lib.Math.min.name, Cond.static Lib.Math.min.name, Cond.initialized "java/lang/Math", Cond.code Lib.Math.min.name Lib.Math.min.code 2 (some .int), Cond.methodLink RX1 28 Lib.Math.max.name, Cond.static Lib.Math.max.name, Cond.code Lib.Math.max.name Lib.Math.max.code 2 (some .int), Cond.fieldLink RX1 31 "LoserDraws$Drum" "people" "I"]
def wsX4_mean_r2 : List Cond := [Cond.fieldLink RX1 35 "LoserDraws$Drum" "wishers" "I", Cond.fieldLink RX1 38 "LoserDraws$Drum" "total" "I", Cond.fieldLink RX1 9 "LoserDraws$Drum" "slips" "[I", Cond.methodLink RX1 41 yX1_setDrawn, Cond.instanceMethod yX1_setDrawn, Cond.selects RX1 yX1_setDrawn yX1_setDrawn, Cond.code yX1_setDrawn cX1_setDrawn 2 none, Cond.fieldLink RX1 45 "LoserDraws$Drum" "drawn" "I", Cond.methodLink RX4 72 yX4_citizen, Cond.instanceMethod yX4_citizen, Cond.selects RX4 yX4_citizen yX4_citizen, Cond.code yX4_citizen cX4_citizen 2 (some (.object "LoserDraws$Citizen")), Cond.fieldLink RX4 13 "LoserDraws" "citizens" "[LLoserDraws$Citizen;", Cond.instanceMethod yX0_slips, Cond.initialized RX0, Cond.selects RX0 yX0_slips yX0_slips, Cond.code yX0_slips cX0_slips 1 (some .int), Cond.fieldLink RX0 7 "LoserDraws$Citizen" "kind" "I", Cond.fieldLink RX0 13 "LoserDraws$Citizen" "tickets" "I", Cond.static yX4_slipsOf, Cond.code yX4_slipsOf cX4_slipsOf 3 (some .int), Cond.instanceMethod yX1_setSlips, Cond.selects RX1 yX1_setSlips yX1_setSlips, Cond.code yX1_setSlips cX1_setSlips 5 none]
def wsX4_mean_r3 : List Cond := [Cond.fieldLink RX1 15 "LoserDraws$Drum" "picks" "[J", Cond.methodLink RX1 48 yX1_choose, Cond.static yX1_choose, Cond.code yX1_choose cX1_choose 5 (some .long), Cond.instanceMethod yX1_setWishes, Cond.selects RX1 yX1_setWishes yX1_setWishes, Cond.code yX1_setWishes cX1_setWishes 4 none, Cond.instanceMethod yX1_drawsSparing, Cond.selects RX1 yX1_drawsSparing yX1_drawsSparing, Cond.code yX1_drawsSparing cX1_drawsSparing 2 (some .long), Cond.methodLink RX1 56 yX1_slipsOfOne, Cond.instanceMethod yX1_slipsOfOne, Cond.selects RX1 yX1_slipsOfOne yX1_slipsOfOne, Cond.code yX1_slipsOfOne cX1_slipsOfOne 2 (some .int), Cond.methodLink RX1 52 yX1_taken, Cond.instanceMethod yX1_taken, Cond.selects RX1 yX1_taken yX1_taken, Cond.code yX1_taken cX1_taken 1 (some .int), Cond.instanceMethod yX1_draws, Cond.selects RX1 yX1_draws yX1_draws, Cond.code yX1_draws cX1_draws 1 (some .long), Cond.methodLink RX4 127 yX4_partOf, Cond.static yX4_partOf, Cond.code yX4_partOf cX4_partOf 12 (some .long)]
def wsX4_mean : List Cond := .code yX4_mean cX4_mean 5 (some .long) :: ((wsX4_mean_r1 ++ (wsX4_mean_r2 ++ wsX4_mean_r3)) ++ wsX40 ++ wsX00 ++ wsX10)
def wsX4_passes_r1 : List Cond := [Cond.fieldLink RX4 69 "LoserDraws" "people" "I", Cond.constantLong RX4 117 (-9223372036854775808), Cond.fieldLink RX4 30 "LoserDraws" "drum" "LLoserDraws$Drum;", Cond.methodLink RX4 114 yX4_isWhich, Cond.static yX4_isWhich, Cond.initialized RX4, Cond.code yX4_isWhich cX4_isWhich 1 (some .boolean), Cond.methodLink RX4 108 yX4_fillDrum, Cond.instanceMethod yX4_fillDrum, Cond.selects RX4 yX4_fillDrum yX4_fillDrum, Cond.code yX4_fillDrum cX4_fillDrum 3 none, Cond.fieldLink RX4 96 "LoserDraws" "drawnNow" "I", Cond.instanceMethod yX1_empty, Cond.initialized RX1, Cond.selects RX1 yX1_empty yX1_empty, Cond.code yX1_empty cX1_empty 4 none, Cond.methodLink RX1 22 Lib.Math.min.name, Cond.static Lib.Math.min.name, Cond.initialized "java/lang/Math", Cond.code Lib.Math.min.name Lib.Math.min.code 2 (some .int), Cond.methodLink RX1 28 Lib.Math.max.name, Cond.static Lib.Math.max.name, Cond.code Lib.Math.max.name Lib.Math.max.code 2 (some .int), Cond.fieldLink RX1 31 "LoserDraws$Drum" "people" "I"]
def wsX4_passes_r2 : List Cond := [Cond.fieldLink RX1 35 "LoserDraws$Drum" "wishers" "I", Cond.fieldLink RX1 38 "LoserDraws$Drum" "total" "I", Cond.fieldLink RX1 9 "LoserDraws$Drum" "slips" "[I", Cond.methodLink RX1 41 yX1_setDrawn, Cond.instanceMethod yX1_setDrawn, Cond.selects RX1 yX1_setDrawn yX1_setDrawn, Cond.code yX1_setDrawn cX1_setDrawn 2 none, Cond.fieldLink RX1 45 "LoserDraws$Drum" "drawn" "I", Cond.methodLink RX4 72 yX4_citizen, Cond.instanceMethod yX4_citizen, Cond.selects RX4 yX4_citizen yX4_citizen, Cond.code yX4_citizen cX4_citizen 2 (some (.object "LoserDraws$Citizen")), Cond.fieldLink RX4 13 "LoserDraws" "citizens" "[LLoserDraws$Citizen;", Cond.instanceMethod yX0_slips, Cond.initialized RX0, Cond.selects RX0 yX0_slips yX0_slips, Cond.code yX0_slips cX0_slips 1 (some .int), Cond.fieldLink RX0 7 "LoserDraws$Citizen" "kind" "I", Cond.fieldLink RX0 13 "LoserDraws$Citizen" "tickets" "I", Cond.static yX4_slipsOf, Cond.code yX4_slipsOf cX4_slipsOf 3 (some .int), Cond.instanceMethod yX1_setSlips, Cond.selects RX1 yX1_setSlips yX1_setSlips, Cond.code yX1_setSlips cX1_setSlips 5 none]
def wsX4_passes_r3 : List Cond := [Cond.fieldLink RX1 15 "LoserDraws$Drum" "picks" "[J", Cond.methodLink RX1 48 yX1_choose, Cond.static yX1_choose, Cond.code yX1_choose cX1_choose 5 (some .long), Cond.instanceMethod yX1_setWishes, Cond.selects RX1 yX1_setWishes yX1_setWishes, Cond.code yX1_setWishes cX1_setWishes 4 none, Cond.instanceMethod yX1_drawsPassing, Cond.selects RX1 yX1_drawsPassing yX1_drawsPassing, Cond.code yX1_drawsPassing cX1_drawsPassing 5 (some .long), Cond.methodLink RX1 60 yX1_countFreeing, Cond.instanceMethod yX1_countFreeing, Cond.selects RX1 yX1_countFreeing yX1_countFreeing, Cond.code yX1_countFreeing cX1_countFreeing 3 none, Cond.methodLink RX1 87 yX1_countFreeingWith, Cond.instanceMethod yX1_countFreeingWith, Cond.selects RX1 yX1_countFreeingWith yX1_countFreeingWith, Cond.code yX1_countFreeingWith cX1_countFreeingWith 7 none, Cond.fieldLink RX1 19 "LoserDraws$Drum" "freeing" "[J", Cond.methodLink RX1 52 yX1_taken, Cond.instanceMethod yX1_taken, Cond.selects RX1 yX1_taken yX1_taken, Cond.code yX1_taken cX1_taken 1 (some .int), Cond.methodLink RX1 73 yJ6_bitCount_0f7a4]
def wsX4_passes_r4 : List Cond := [Cond.static yJ6_bitCount_0f7a4, Cond.initialized RJ6, Cond.code yJ6_bitCount_0f7a4 cJ6_bitCount_0f7a4 1 (some .int), Cond.constant RJ6 265 (1431655765), Cond.constant RJ6 266 (858993459), Cond.constant RJ6 267 (252645135), Cond.methodLink RX1 91 yX1_waysWithLast, Cond.instanceMethod yX1_waysWithLast, Cond.selects RX1 yX1_waysWithLast yX1_waysWithLast, Cond.code yX1_waysWithLast cX1_waysWithLast 10 (some .long), Cond.methodLink RX1 63 yX1_everybody, Cond.instanceMethod yX1_everybody, Cond.selects RX1 yX1_everybody yX1_everybody, Cond.code yX1_everybody cX1_everybody 1 (some .int), Cond.methodLink RX1 69 yX1_passesUnder, Cond.instanceMethod yX1_passesUnder, Cond.selects RX1 yX1_passesUnder yX1_passesUnder, Cond.code yX1_passesUnder cX1_passesUnder 2 (some .boolean), Cond.methodLink RX1 66 yX1_freeingBy, Cond.instanceMethod yX1_freeingBy, Cond.selects RX1 yX1_freeingBy yX1_freeingBy, Cond.code yX1_freeingBy cX1_freeingBy 4 (some .long), Cond.instanceMethod yX1_draws, Cond.selects RX1 yX1_draws yX1_draws]
def wsX4_passes_r5 : List Cond := [Cond.code yX1_draws cX1_draws 1 (some .long), Cond.methodLink RX4 127 yX4_partOf, Cond.static yX4_partOf, Cond.code yX4_partOf cX4_partOf 12 (some .long)]
def wsX4_passes : List Cond := .code yX4_passes cX4_passes 2 (some .long) :: ((wsX4_passes_r1 ++ (wsX4_passes_r2 ++ (wsX4_passes_r3 ++ (wsX4_passes_r4 ++ wsX4_passes_r5)))) ++ wsX40 ++ wsX00 ++ wsX10)
def wsX4_buy_r1 : List Cond := [Cond.fieldLink RX4 99 "LoserDraws" "priceNow" "I", Cond.fieldLink RX4 30 "LoserDraws" "drum" "LLoserDraws$Drum;", Cond.methodLink RX4 72 yX4_citizen, Cond.instanceMethod yX4_citizen, Cond.selects RX4 yX4_citizen yX4_citizen, Cond.initialized RX4, Cond.code yX4_citizen cX4_citizen 2 (some (.object "LoserDraws$Citizen")), Cond.fieldLink RX4 69 "LoserDraws" "people" "I", Cond.fieldLink RX4 13 "LoserDraws" "citizens" "[LLoserDraws$Citizen;", Cond.methodLink RX4 108 yX4_fillDrum, Cond.instanceMethod yX4_fillDrum, Cond.selects RX4 yX4_fillDrum yX4_fillDrum, Cond.code yX4_fillDrum cX4_fillDrum 3 none, Cond.fieldLink RX4 96 "LoserDraws" "drawnNow" "I", Cond.instanceMethod yX1_empty, Cond.initialized RX1, Cond.selects RX1 yX1_empty yX1_empty, Cond.code yX1_empty cX1_empty 4 none, Cond.methodLink RX1 22 Lib.Math.min.name, Cond.static Lib.Math.min.name, Cond.initialized "java/lang/Math", Cond.code Lib.Math.min.name Lib.Math.min.code 2 (some .int), Cond.methodLink RX1 28 Lib.Math.max.name, Cond.static Lib.Math.max.name]
def wsX4_buy_r2 : List Cond := [Cond.code Lib.Math.max.name Lib.Math.max.code 2 (some .int), Cond.fieldLink RX1 31 "LoserDraws$Drum" "people" "I", Cond.fieldLink RX1 35 "LoserDraws$Drum" "wishers" "I", Cond.fieldLink RX1 38 "LoserDraws$Drum" "total" "I", Cond.fieldLink RX1 9 "LoserDraws$Drum" "slips" "[I", Cond.methodLink RX1 41 yX1_setDrawn, Cond.instanceMethod yX1_setDrawn, Cond.selects RX1 yX1_setDrawn yX1_setDrawn, Cond.code yX1_setDrawn cX1_setDrawn 2 none, Cond.fieldLink RX1 45 "LoserDraws$Drum" "drawn" "I", Cond.instanceMethod yX0_slips, Cond.initialized RX0, Cond.selects RX0 yX0_slips yX0_slips, Cond.code yX0_slips cX0_slips 1 (some .int), Cond.fieldLink RX0 7 "LoserDraws$Citizen" "kind" "I", Cond.fieldLink RX0 13 "LoserDraws$Citizen" "tickets" "I", Cond.static yX4_slipsOf, Cond.code yX4_slipsOf cX4_slipsOf 3 (some .int), Cond.instanceMethod yX1_setSlips, Cond.selects RX1 yX1_setSlips yX1_setSlips, Cond.code yX1_setSlips cX1_setSlips 5 none, Cond.fieldLink RX1 15 "LoserDraws$Drum" "picks" "[J", Cond.methodLink RX1 48 yX1_choose, Cond.static yX1_choose]
def wsX4_buy_r3 : List Cond := [Cond.code yX1_choose cX1_choose 5 (some .long), Cond.instanceMethod yX1_setWishes, Cond.selects RX1 yX1_setWishes yX1_setWishes, Cond.code yX1_setWishes cX1_setWishes 4 none, Cond.instanceMethod yX1_draws, Cond.selects RX1 yX1_draws yX1_draws, Cond.code yX1_draws cX1_draws 1 (some .long), Cond.methodLink RX1 52 yX1_taken, Cond.instanceMethod yX1_taken, Cond.selects RX1 yX1_taken yX1_taken, Cond.code yX1_taken cX1_taken 1 (some .int), Cond.instanceMethod yX1_drawsSparing, Cond.selects RX1 yX1_drawsSparing yX1_drawsSparing, Cond.code yX1_drawsSparing cX1_drawsSparing 2 (some .long), Cond.methodLink RX1 56 yX1_slipsOfOne, Cond.instanceMethod yX1_slipsOfOne, Cond.selects RX1 yX1_slipsOfOne yX1_slipsOfOne, Cond.code yX1_slipsOfOne cX1_slipsOfOne 2 (some .int)]
def wsX4_buy : List Cond := .code yX4_buy cX4_buy 8 (some .int) :: ((wsX4_buy_r1 ++ (wsX4_buy_r2 ++ wsX4_buy_r3)) ++ wsX40 ++ wsX00 ++ wsX10)
def wsX4_isMore : List Cond := .code yX4_isMore cX4_isMore 8 (some .boolean) :: ([.constantLong RX4 117 (-9223372036854775808)])
def wsX4_lend_r1 : List Cond := [Cond.fieldLink RX4 30 "LoserDraws" "drum" "LLoserDraws$Drum;", Cond.fieldLink RX4 69 "LoserDraws" "people" "I", Cond.methodLink RX4 72 yX4_citizen, Cond.instanceMethod yX4_citizen, Cond.selects RX4 yX4_citizen yX4_citizen, Cond.initialized RX4, Cond.code yX4_citizen cX4_citizen 2 (some (.object "LoserDraws$Citizen")), Cond.fieldLink RX4 13 "LoserDraws" "citizens" "[LLoserDraws$Citizen;", Cond.methodLink RX4 108 yX4_fillDrum, Cond.instanceMethod yX4_fillDrum, Cond.selects RX4 yX4_fillDrum yX4_fillDrum, Cond.code yX4_fillDrum cX4_fillDrum 3 none, Cond.fieldLink RX4 96 "LoserDraws" "drawnNow" "I", Cond.instanceMethod yX1_empty, Cond.initialized RX1, Cond.selects RX1 yX1_empty yX1_empty, Cond.code yX1_empty cX1_empty 4 none, Cond.methodLink RX1 22 Lib.Math.min.name, Cond.static Lib.Math.min.name, Cond.initialized "java/lang/Math", Cond.code Lib.Math.min.name Lib.Math.min.code 2 (some .int), Cond.methodLink RX1 28 Lib.Math.max.name, Cond.static Lib.Math.max.name, Cond.code Lib.Math.max.name Lib.Math.max.code 2 (some .int)]
def wsX4_lend_r2 : List Cond := [Cond.fieldLink RX1 31 "LoserDraws$Drum" "people" "I", Cond.fieldLink RX1 35 "LoserDraws$Drum" "wishers" "I", Cond.fieldLink RX1 38 "LoserDraws$Drum" "total" "I", Cond.fieldLink RX1 9 "LoserDraws$Drum" "slips" "[I", Cond.methodLink RX1 41 yX1_setDrawn, Cond.instanceMethod yX1_setDrawn, Cond.selects RX1 yX1_setDrawn yX1_setDrawn, Cond.code yX1_setDrawn cX1_setDrawn 2 none, Cond.fieldLink RX1 45 "LoserDraws$Drum" "drawn" "I", Cond.instanceMethod yX0_slips, Cond.initialized RX0, Cond.selects RX0 yX0_slips yX0_slips, Cond.code yX0_slips cX0_slips 1 (some .int), Cond.fieldLink RX0 7 "LoserDraws$Citizen" "kind" "I", Cond.fieldLink RX0 13 "LoserDraws$Citizen" "tickets" "I", Cond.static yX4_slipsOf, Cond.code yX4_slipsOf cX4_slipsOf 3 (some .int), Cond.instanceMethod yX1_setSlips, Cond.selects RX1 yX1_setSlips yX1_setSlips, Cond.code yX1_setSlips cX1_setSlips 5 none, Cond.fieldLink RX1 15 "LoserDraws$Drum" "picks" "[J", Cond.methodLink RX1 48 yX1_choose, Cond.static yX1_choose, Cond.code yX1_choose cX1_choose 5 (some .long)]
def wsX4_lend_r3 : List Cond := [Cond.instanceMethod yX1_setWishes, Cond.selects RX1 yX1_setWishes yX1_setWishes, Cond.code yX1_setWishes cX1_setWishes 4 none, Cond.instanceMethod yX1_drawsPassing, Cond.selects RX1 yX1_drawsPassing yX1_drawsPassing, Cond.code yX1_drawsPassing cX1_drawsPassing 5 (some .long), Cond.methodLink RX1 60 yX1_countFreeing, Cond.instanceMethod yX1_countFreeing, Cond.selects RX1 yX1_countFreeing yX1_countFreeing, Cond.code yX1_countFreeing cX1_countFreeing 3 none, Cond.methodLink RX1 87 yX1_countFreeingWith, Cond.instanceMethod yX1_countFreeingWith, Cond.selects RX1 yX1_countFreeingWith yX1_countFreeingWith, Cond.code yX1_countFreeingWith cX1_countFreeingWith 7 none, Cond.fieldLink RX1 19 "LoserDraws$Drum" "freeing" "[J", Cond.methodLink RX1 52 yX1_taken, Cond.instanceMethod yX1_taken, Cond.selects RX1 yX1_taken yX1_taken, Cond.code yX1_taken cX1_taken 1 (some .int), Cond.methodLink RX1 73 yJ6_bitCount_0f7a4, Cond.static yJ6_bitCount_0f7a4, Cond.initialized RJ6, Cond.code yJ6_bitCount_0f7a4 cJ6_bitCount_0f7a4 1 (some .int), Cond.constant RJ6 265 (1431655765)]
def wsX4_lend_r4 : List Cond := [Cond.constant RJ6 266 (858993459), Cond.constant RJ6 267 (252645135), Cond.methodLink RX1 91 yX1_waysWithLast, Cond.instanceMethod yX1_waysWithLast, Cond.selects RX1 yX1_waysWithLast yX1_waysWithLast, Cond.code yX1_waysWithLast cX1_waysWithLast 10 (some .long), Cond.methodLink RX1 63 yX1_everybody, Cond.instanceMethod yX1_everybody, Cond.selects RX1 yX1_everybody yX1_everybody, Cond.code yX1_everybody cX1_everybody 1 (some .int), Cond.methodLink RX1 69 yX1_passesUnder, Cond.instanceMethod yX1_passesUnder, Cond.selects RX1 yX1_passesUnder yX1_passesUnder, Cond.code yX1_passesUnder cX1_passesUnder 2 (some .boolean), Cond.methodLink RX1 66 yX1_freeingBy, Cond.instanceMethod yX1_freeingBy, Cond.selects RX1 yX1_freeingBy yX1_freeingBy, Cond.code yX1_freeingBy cX1_freeingBy 4 (some .long), Cond.instanceMethod yX1_draws, Cond.selects RX1 yX1_draws yX1_draws, Cond.code yX1_draws cX1_draws 1 (some .long), Cond.methodLink RX4 144 yX4_slipsOf, Cond.methodLink RX4 148 yX4_isMore, Cond.static yX4_isMore]
def wsX4_lend_r5 : List Cond := [Cond.code yX4_isMore cX4_isMore 8 (some .boolean), Cond.constantLong RX4 117 (-9223372036854775808)]
def wsX4_lend : List Cond := .code yX4_lend cX4_lend 14 (some .int) :: ((wsX4_lend_r1 ++ (wsX4_lend_r2 ++ (wsX4_lend_r3 ++ (wsX4_lend_r4 ++ wsX4_lend_r5)))) ++ wsX00 ++ wsX40 ++ wsX10)
def wsX4_least_r1 : List Cond := [Cond.fieldLink RX4 69 "LoserDraws" "people" "I", Cond.fieldLink RX4 30 "LoserDraws" "drum" "LLoserDraws$Drum;", Cond.fieldLink RX4 99 "LoserDraws" "priceNow" "I", Cond.methodLink RX4 108 yX4_fillDrum, Cond.instanceMethod yX4_fillDrum, Cond.selects RX4 yX4_fillDrum yX4_fillDrum, Cond.initialized RX4, Cond.code yX4_fillDrum cX4_fillDrum 3 none, Cond.fieldLink RX4 96 "LoserDraws" "drawnNow" "I", Cond.instanceMethod yX1_empty, Cond.initialized RX1, Cond.selects RX1 yX1_empty yX1_empty, Cond.code yX1_empty cX1_empty 4 none, Cond.methodLink RX1 22 Lib.Math.min.name, Cond.static Lib.Math.min.name, Cond.initialized "java/lang/Math", Cond.code Lib.Math.min.name Lib.Math.min.code 2 (some .int), Cond.methodLink RX1 28 Lib.Math.max.name, Cond.static Lib.Math.max.name, Cond.code Lib.Math.max.name Lib.Math.max.code 2 (some .int), Cond.fieldLink RX1 31 "LoserDraws$Drum" "people" "I", Cond.fieldLink RX1 35 "LoserDraws$Drum" "wishers" "I", Cond.fieldLink RX1 38 "LoserDraws$Drum" "total" "I", Cond.fieldLink RX1 9 "LoserDraws$Drum" "slips" "[I"]
def wsX4_least_r2 : List Cond := [Cond.methodLink RX1 41 yX1_setDrawn, Cond.instanceMethod yX1_setDrawn, Cond.selects RX1 yX1_setDrawn yX1_setDrawn, Cond.code yX1_setDrawn cX1_setDrawn 2 none, Cond.fieldLink RX1 45 "LoserDraws$Drum" "drawn" "I", Cond.methodLink RX4 72 yX4_citizen, Cond.instanceMethod yX4_citizen, Cond.selects RX4 yX4_citizen yX4_citizen, Cond.code yX4_citizen cX4_citizen 2 (some (.object "LoserDraws$Citizen")), Cond.fieldLink RX4 13 "LoserDraws" "citizens" "[LLoserDraws$Citizen;", Cond.instanceMethod yX0_slips, Cond.initialized RX0, Cond.selects RX0 yX0_slips yX0_slips, Cond.code yX0_slips cX0_slips 1 (some .int), Cond.fieldLink RX0 7 "LoserDraws$Citizen" "kind" "I", Cond.fieldLink RX0 13 "LoserDraws$Citizen" "tickets" "I", Cond.static yX4_slipsOf, Cond.code yX4_slipsOf cX4_slipsOf 3 (some .int), Cond.instanceMethod yX1_setSlips, Cond.selects RX1 yX1_setSlips yX1_setSlips, Cond.code yX1_setSlips cX1_setSlips 5 none, Cond.fieldLink RX1 15 "LoserDraws$Drum" "picks" "[J", Cond.methodLink RX1 48 yX1_choose, Cond.static yX1_choose]
def wsX4_least_r3 : List Cond := [Cond.code yX1_choose cX1_choose 5 (some .long), Cond.instanceMethod yX1_setWishes, Cond.selects RX1 yX1_setWishes yX1_setWishes, Cond.code yX1_setWishes cX1_setWishes 4 none, Cond.instanceMethod yX1_passesByHalf, Cond.selects RX1 yX1_passesByHalf yX1_passesByHalf, Cond.code yX1_passesByHalf cX1_passesByHalf 1 (some .boolean), Cond.constantLong RX1 78 (2), Cond.methodLink RX1 80 yX1_drawsPassing, Cond.instanceMethod yX1_drawsPassing, Cond.selects RX1 yX1_drawsPassing yX1_drawsPassing, Cond.code yX1_drawsPassing cX1_drawsPassing 5 (some .long), Cond.methodLink RX1 60 yX1_countFreeing, Cond.instanceMethod yX1_countFreeing, Cond.selects RX1 yX1_countFreeing yX1_countFreeing, Cond.code yX1_countFreeing cX1_countFreeing 3 none, Cond.methodLink RX1 87 yX1_countFreeingWith, Cond.instanceMethod yX1_countFreeingWith, Cond.selects RX1 yX1_countFreeingWith yX1_countFreeingWith, Cond.code yX1_countFreeingWith cX1_countFreeingWith 7 none, Cond.fieldLink RX1 19 "LoserDraws$Drum" "freeing" "[J", Cond.methodLink RX1 52 yX1_taken, Cond.instanceMethod yX1_taken, Cond.selects RX1 yX1_taken yX1_taken]
def wsX4_least_r4 : List Cond := [Cond.code yX1_taken cX1_taken 1 (some .int), Cond.methodLink RX1 73 yJ6_bitCount_0f7a4, Cond.static yJ6_bitCount_0f7a4, Cond.initialized RJ6, Cond.code yJ6_bitCount_0f7a4 cJ6_bitCount_0f7a4 1 (some .int), Cond.constant RJ6 265 (1431655765), Cond.constant RJ6 266 (858993459), Cond.constant RJ6 267 (252645135), Cond.methodLink RX1 91 yX1_waysWithLast, Cond.instanceMethod yX1_waysWithLast, Cond.selects RX1 yX1_waysWithLast yX1_waysWithLast, Cond.code yX1_waysWithLast cX1_waysWithLast 10 (some .long), Cond.methodLink RX1 63 yX1_everybody, Cond.instanceMethod yX1_everybody, Cond.selects RX1 yX1_everybody yX1_everybody, Cond.code yX1_everybody cX1_everybody 1 (some .int), Cond.methodLink RX1 69 yX1_passesUnder, Cond.instanceMethod yX1_passesUnder, Cond.selects RX1 yX1_passesUnder yX1_passesUnder, Cond.code yX1_passesUnder cX1_passesUnder 2 (some .boolean), Cond.methodLink RX1 66 yX1_freeingBy, Cond.instanceMethod yX1_freeingBy, Cond.selects RX1 yX1_freeingBy yX1_freeingBy, Cond.code yX1_freeingBy cX1_freeingBy 4 (some .long)]
def wsX4_least_r5 : List Cond := [Cond.methodLink RX1 84 yX1_draws, Cond.instanceMethod yX1_draws, Cond.selects RX1 yX1_draws yX1_draws, Cond.code yX1_draws cX1_draws 1 (some .long)]
def wsX4_least : List Cond := .code yX4_least cX4_least 7 (some .int) :: ((wsX4_least_r1 ++ (wsX4_least_r2 ++ (wsX4_least_r3 ++ (wsX4_least_r4 ++ wsX4_least_r5)))) ++ wsX40 ++ wsX00 ++ wsX10)
def wsX4_reading : List Cond := .code yX4_reading cX4_reading 2 (some .int) :: ([.fieldLink RX4 69 "LoserDraws" "people" "I", .fieldLink RX4 160 "LoserDraws" "readingsKept" "I", .fieldLink RX4 17 "LoserDraws" "readings" "[I", .methodLink RX4 131 yX4_isSet, .instanceMethod yX4_isSet, .selects RX4 yX4_isSet yX4_isSet, .initialized RX4, .code yX4_isSet cX4_isSet 2 (some .boolean)] ++ wsX40)
def wsX4_back : List Cond := .code yX4_back cX4_back 2 (some .int) :: ([.fieldLink RX4 160 "LoserDraws" "readingsKept" "I"] ++ wsX40)
def wsX4_allReadingsCanBe_r1 : List Cond := [Cond.fieldLink RX4 160 "LoserDraws" "readingsKept" "I", Cond.fieldLink RX4 17 "LoserDraws" "readings" "[I", Cond.fieldLink RX4 30 "LoserDraws" "drum" "LLoserDraws$Drum;", Cond.instanceMethod yX1_canLeaveJust, Cond.initialized RX1, Cond.selects RX1 yX1_canLeaveJust yX1_canLeaveJust, Cond.code yX1_canLeaveJust cX1_canLeaveJust 5 (some .boolean), Cond.fieldLink RX1 31 "LoserDraws$Drum" "people" "I", Cond.methodLink RX1 63 yX1_everybody, Cond.instanceMethod yX1_everybody, Cond.selects RX1 yX1_everybody yX1_everybody, Cond.code yX1_everybody cX1_everybody 1 (some .int), Cond.methodLink RX1 56 yX1_slipsOfOne, Cond.instanceMethod yX1_slipsOfOne, Cond.selects RX1 yX1_slipsOfOne yX1_slipsOfOne, Cond.code yX1_slipsOfOne cX1_slipsOfOne 2 (some .int), Cond.fieldLink RX1 9 "LoserDraws$Drum" "slips" "[I", Cond.methodLink RX1 73 yJ6_bitCount_0f7a4, Cond.static yJ6_bitCount_0f7a4, Cond.initialized RJ6, Cond.code yJ6_bitCount_0f7a4 cJ6_bitCount_0f7a4 1 (some .int), Cond.constant RJ6 265 (1431655765), Cond.constant RJ6 266 (858993459), Cond.constant RJ6 267 (252645135)]
def wsX4_allReadingsCanBe_r2 : List Cond := [Cond.methodLink RX1 52 yX1_taken, Cond.instanceMethod yX1_taken, Cond.selects RX1 yX1_taken yX1_taken, Cond.code yX1_taken cX1_taken 1 (some .int), Cond.fieldLink RX1 45 "LoserDraws$Drum" "drawn" "I", Cond.fieldLink RX1 38 "LoserDraws$Drum" "total" "I", Cond.methodLink RX1 22 Lib.Math.min.name, Cond.static Lib.Math.min.name, Cond.initialized "java/lang/Math", Cond.code Lib.Math.min.name Lib.Math.min.code 2 (some .int)]
def wsX4_allReadingsCanBe : List Cond := .code yX4_allReadingsCanBe cX4_allReadingsCanBe 2 (some .boolean) :: ((wsX4_allReadingsCanBe_r1 ++ wsX4_allReadingsCanBe_r2) ++ wsX40 ++ wsX10)
def wsX4_tickets_r1 : List Cond := [Cond.fieldLink RX4 30 "LoserDraws" "drum" "LLoserDraws$Drum;", Cond.methodLink RX4 72 yX4_citizen, Cond.instanceMethod yX4_citizen, Cond.selects RX4 yX4_citizen yX4_citizen, Cond.initialized RX4, Cond.code yX4_citizen cX4_citizen 2 (some (.object "LoserDraws$Citizen")), Cond.fieldLink RX4 69 "LoserDraws" "people" "I", Cond.fieldLink RX4 13 "LoserDraws" "citizens" "[LLoserDraws$Citizen;", Cond.methodLink RX4 108 yX4_fillDrum, Cond.instanceMethod yX4_fillDrum, Cond.selects RX4 yX4_fillDrum yX4_fillDrum, Cond.code yX4_fillDrum cX4_fillDrum 3 none, Cond.fieldLink RX4 96 "LoserDraws" "drawnNow" "I", Cond.instanceMethod yX1_empty, Cond.initialized RX1, Cond.selects RX1 yX1_empty yX1_empty, Cond.code yX1_empty cX1_empty 4 none, Cond.methodLink RX1 22 Lib.Math.min.name, Cond.static Lib.Math.min.name, Cond.initialized "java/lang/Math", Cond.code Lib.Math.min.name Lib.Math.min.code 2 (some .int), Cond.methodLink RX1 28 Lib.Math.max.name, Cond.static Lib.Math.max.name, Cond.code Lib.Math.max.name Lib.Math.max.code 2 (some .int)]
def wsX4_tickets_r2 : List Cond := [Cond.fieldLink RX1 31 "LoserDraws$Drum" "people" "I", Cond.fieldLink RX1 35 "LoserDraws$Drum" "wishers" "I", Cond.fieldLink RX1 38 "LoserDraws$Drum" "total" "I", Cond.fieldLink RX1 9 "LoserDraws$Drum" "slips" "[I", Cond.methodLink RX1 41 yX1_setDrawn, Cond.instanceMethod yX1_setDrawn, Cond.selects RX1 yX1_setDrawn yX1_setDrawn, Cond.code yX1_setDrawn cX1_setDrawn 2 none, Cond.fieldLink RX1 45 "LoserDraws$Drum" "drawn" "I", Cond.instanceMethod yX0_slips, Cond.initialized RX0, Cond.selects RX0 yX0_slips yX0_slips, Cond.code yX0_slips cX0_slips 1 (some .int), Cond.fieldLink RX0 7 "LoserDraws$Citizen" "kind" "I", Cond.fieldLink RX0 13 "LoserDraws$Citizen" "tickets" "I", Cond.static yX4_slipsOf, Cond.code yX4_slipsOf cX4_slipsOf 3 (some .int), Cond.instanceMethod yX1_setSlips, Cond.selects RX1 yX1_setSlips yX1_setSlips, Cond.code yX1_setSlips cX1_setSlips 5 none, Cond.fieldLink RX1 15 "LoserDraws$Drum" "picks" "[J", Cond.methodLink RX1 48 yX1_choose, Cond.static yX1_choose, Cond.code yX1_choose cX1_choose 5 (some .long)]
def wsX4_tickets_r3 : List Cond := [Cond.instanceMethod yX1_setWishes, Cond.selects RX1 yX1_setWishes yX1_setWishes, Cond.code yX1_setWishes cX1_setWishes 4 none, Cond.methodLink RX4 144 yX4_slipsOf, Cond.methodLink RX4 163 yX4_allReadingsCanBe, Cond.instanceMethod yX4_allReadingsCanBe, Cond.selects RX4 yX4_allReadingsCanBe yX4_allReadingsCanBe, Cond.code yX4_allReadingsCanBe cX4_allReadingsCanBe 2 (some .boolean), Cond.fieldLink RX4 160 "LoserDraws" "readingsKept" "I", Cond.fieldLink RX4 17 "LoserDraws" "readings" "[I", Cond.instanceMethod yX1_canLeaveJust, Cond.selects RX1 yX1_canLeaveJust yX1_canLeaveJust, Cond.code yX1_canLeaveJust cX1_canLeaveJust 5 (some .boolean), Cond.methodLink RX1 63 yX1_everybody, Cond.instanceMethod yX1_everybody, Cond.selects RX1 yX1_everybody yX1_everybody, Cond.code yX1_everybody cX1_everybody 1 (some .int), Cond.methodLink RX1 56 yX1_slipsOfOne, Cond.instanceMethod yX1_slipsOfOne, Cond.selects RX1 yX1_slipsOfOne yX1_slipsOfOne, Cond.code yX1_slipsOfOne cX1_slipsOfOne 2 (some .int), Cond.methodLink RX1 73 yJ6_bitCount_0f7a4, Cond.static yJ6_bitCount_0f7a4, Cond.initialized RJ6]
def wsX4_tickets_r4 : List Cond := [Cond.code yJ6_bitCount_0f7a4 cJ6_bitCount_0f7a4 1 (some .int), Cond.constant RJ6 265 (1431655765), Cond.constant RJ6 266 (858993459), Cond.constant RJ6 267 (252645135), Cond.methodLink RX1 52 yX1_taken, Cond.instanceMethod yX1_taken, Cond.selects RX1 yX1_taken yX1_taken, Cond.code yX1_taken cX1_taken 1 (some .int)]
def wsX4_tickets : List Cond := .code yX4_tickets cX4_tickets 5 (some .int) :: ((wsX4_tickets_r1 ++ (wsX4_tickets_r2 ++ (wsX4_tickets_r3 ++ wsX4_tickets_r4))) ++ wsX40 ++ wsX00 ++ wsX10)
def wsX4_kinds_r1 : List Cond := [Cond.fieldLink RX4 30 "LoserDraws" "drum" "LLoserDraws$Drum;", Cond.methodLink RX4 72 yX4_citizen, Cond.instanceMethod yX4_citizen, Cond.selects RX4 yX4_citizen yX4_citizen, Cond.initialized RX4, Cond.code yX4_citizen cX4_citizen 2 (some (.object "LoserDraws$Citizen")), Cond.fieldLink RX4 69 "LoserDraws" "people" "I", Cond.fieldLink RX4 13 "LoserDraws" "citizens" "[LLoserDraws$Citizen;", Cond.methodLink RX4 108 yX4_fillDrum, Cond.instanceMethod yX4_fillDrum, Cond.selects RX4 yX4_fillDrum yX4_fillDrum, Cond.code yX4_fillDrum cX4_fillDrum 3 none, Cond.fieldLink RX4 96 "LoserDraws" "drawnNow" "I", Cond.instanceMethod yX1_empty, Cond.initialized RX1, Cond.selects RX1 yX1_empty yX1_empty, Cond.code yX1_empty cX1_empty 4 none, Cond.methodLink RX1 22 Lib.Math.min.name, Cond.static Lib.Math.min.name, Cond.initialized "java/lang/Math", Cond.code Lib.Math.min.name Lib.Math.min.code 2 (some .int), Cond.methodLink RX1 28 Lib.Math.max.name, Cond.static Lib.Math.max.name, Cond.code Lib.Math.max.name Lib.Math.max.code 2 (some .int)]
def wsX4_kinds_r2 : List Cond := [Cond.fieldLink RX1 31 "LoserDraws$Drum" "people" "I", Cond.fieldLink RX1 35 "LoserDraws$Drum" "wishers" "I", Cond.fieldLink RX1 38 "LoserDraws$Drum" "total" "I", Cond.fieldLink RX1 9 "LoserDraws$Drum" "slips" "[I", Cond.methodLink RX1 41 yX1_setDrawn, Cond.instanceMethod yX1_setDrawn, Cond.selects RX1 yX1_setDrawn yX1_setDrawn, Cond.code yX1_setDrawn cX1_setDrawn 2 none, Cond.fieldLink RX1 45 "LoserDraws$Drum" "drawn" "I", Cond.instanceMethod yX0_slips, Cond.initialized RX0, Cond.selects RX0 yX0_slips yX0_slips, Cond.code yX0_slips cX0_slips 1 (some .int), Cond.fieldLink RX0 7 "LoserDraws$Citizen" "kind" "I", Cond.fieldLink RX0 13 "LoserDraws$Citizen" "tickets" "I", Cond.static yX4_slipsOf, Cond.code yX4_slipsOf cX4_slipsOf 3 (some .int), Cond.instanceMethod yX1_setSlips, Cond.selects RX1 yX1_setSlips yX1_setSlips, Cond.code yX1_setSlips cX1_setSlips 5 none, Cond.fieldLink RX1 15 "LoserDraws$Drum" "picks" "[J", Cond.methodLink RX1 48 yX1_choose, Cond.static yX1_choose, Cond.code yX1_choose cX1_choose 5 (some .long)]
def wsX4_kinds_r3 : List Cond := [Cond.instanceMethod yX1_setWishes, Cond.selects RX1 yX1_setWishes yX1_setWishes, Cond.code yX1_setWishes cX1_setWishes 4 none, Cond.methodLink RX4 144 yX4_slipsOf, Cond.methodLink RX4 163 yX4_allReadingsCanBe, Cond.instanceMethod yX4_allReadingsCanBe, Cond.selects RX4 yX4_allReadingsCanBe yX4_allReadingsCanBe, Cond.code yX4_allReadingsCanBe cX4_allReadingsCanBe 2 (some .boolean), Cond.fieldLink RX4 160 "LoserDraws" "readingsKept" "I", Cond.fieldLink RX4 17 "LoserDraws" "readings" "[I", Cond.instanceMethod yX1_canLeaveJust, Cond.selects RX1 yX1_canLeaveJust yX1_canLeaveJust, Cond.code yX1_canLeaveJust cX1_canLeaveJust 5 (some .boolean), Cond.methodLink RX1 63 yX1_everybody, Cond.instanceMethod yX1_everybody, Cond.selects RX1 yX1_everybody yX1_everybody, Cond.code yX1_everybody cX1_everybody 1 (some .int), Cond.methodLink RX1 56 yX1_slipsOfOne, Cond.instanceMethod yX1_slipsOfOne, Cond.selects RX1 yX1_slipsOfOne yX1_slipsOfOne, Cond.code yX1_slipsOfOne cX1_slipsOfOne 2 (some .int), Cond.methodLink RX1 73 yJ6_bitCount_0f7a4, Cond.static yJ6_bitCount_0f7a4, Cond.initialized RJ6]
def wsX4_kinds_r4 : List Cond := [Cond.code yJ6_bitCount_0f7a4 cJ6_bitCount_0f7a4 1 (some .int), Cond.constant RJ6 265 (1431655765), Cond.constant RJ6 266 (858993459), Cond.constant RJ6 267 (252645135), Cond.methodLink RX1 52 yX1_taken, Cond.instanceMethod yX1_taken, Cond.selects RX1 yX1_taken yX1_taken, Cond.code yX1_taken cX1_taken 1 (some .int)]
def wsX4_kinds : List Cond := .code yX4_kinds cX4_kinds 5 (some .int) :: ((wsX4_kinds_r1 ++ (wsX4_kinds_r2 ++ (wsX4_kinds_r3 ++ wsX4_kinds_r4))) ++ wsX40 ++ wsX00 ++ wsX10)
def wsX4_counts_r1 : List Cond := [Cond.fieldLink RX4 69 "LoserDraws" "people" "I", Cond.fieldLink RX4 30 "LoserDraws" "drum" "LLoserDraws$Drum;", Cond.methodLink RX4 108 yX4_fillDrum, Cond.instanceMethod yX4_fillDrum, Cond.selects RX4 yX4_fillDrum yX4_fillDrum, Cond.initialized RX4, Cond.code yX4_fillDrum cX4_fillDrum 3 none, Cond.fieldLink RX4 96 "LoserDraws" "drawnNow" "I", Cond.instanceMethod yX1_empty, Cond.initialized RX1, Cond.selects RX1 yX1_empty yX1_empty, Cond.code yX1_empty cX1_empty 4 none, Cond.methodLink RX1 22 Lib.Math.min.name, Cond.static Lib.Math.min.name, Cond.initialized "java/lang/Math", Cond.code Lib.Math.min.name Lib.Math.min.code 2 (some .int), Cond.methodLink RX1 28 Lib.Math.max.name, Cond.static Lib.Math.max.name, Cond.code Lib.Math.max.name Lib.Math.max.code 2 (some .int), Cond.fieldLink RX1 31 "LoserDraws$Drum" "people" "I", Cond.fieldLink RX1 35 "LoserDraws$Drum" "wishers" "I", Cond.fieldLink RX1 38 "LoserDraws$Drum" "total" "I", Cond.fieldLink RX1 9 "LoserDraws$Drum" "slips" "[I", Cond.methodLink RX1 41 yX1_setDrawn]
def wsX4_counts_r2 : List Cond := [Cond.instanceMethod yX1_setDrawn, Cond.selects RX1 yX1_setDrawn yX1_setDrawn, Cond.code yX1_setDrawn cX1_setDrawn 2 none, Cond.fieldLink RX1 45 "LoserDraws$Drum" "drawn" "I", Cond.methodLink RX4 72 yX4_citizen, Cond.instanceMethod yX4_citizen, Cond.selects RX4 yX4_citizen yX4_citizen, Cond.code yX4_citizen cX4_citizen 2 (some (.object "LoserDraws$Citizen")), Cond.fieldLink RX4 13 "LoserDraws" "citizens" "[LLoserDraws$Citizen;", Cond.instanceMethod yX0_slips, Cond.initialized RX0, Cond.selects RX0 yX0_slips yX0_slips, Cond.code yX0_slips cX0_slips 1 (some .int), Cond.fieldLink RX0 7 "LoserDraws$Citizen" "kind" "I", Cond.fieldLink RX0 13 "LoserDraws$Citizen" "tickets" "I", Cond.static yX4_slipsOf, Cond.code yX4_slipsOf cX4_slipsOf 3 (some .int), Cond.instanceMethod yX1_setSlips, Cond.selects RX1 yX1_setSlips yX1_setSlips, Cond.code yX1_setSlips cX1_setSlips 5 none, Cond.fieldLink RX1 15 "LoserDraws$Drum" "picks" "[J", Cond.methodLink RX1 48 yX1_choose, Cond.static yX1_choose, Cond.code yX1_choose cX1_choose 5 (some .long)]
def wsX4_counts_r3 : List Cond := [Cond.instanceMethod yX1_setWishes, Cond.selects RX1 yX1_setWishes yX1_setWishes, Cond.code yX1_setWishes cX1_setWishes 4 none, Cond.methodLink RX4 163 yX4_allReadingsCanBe, Cond.instanceMethod yX4_allReadingsCanBe, Cond.selects RX4 yX4_allReadingsCanBe yX4_allReadingsCanBe, Cond.code yX4_allReadingsCanBe cX4_allReadingsCanBe 2 (some .boolean), Cond.fieldLink RX4 160 "LoserDraws" "readingsKept" "I", Cond.fieldLink RX4 17 "LoserDraws" "readings" "[I", Cond.instanceMethod yX1_canLeaveJust, Cond.selects RX1 yX1_canLeaveJust yX1_canLeaveJust, Cond.code yX1_canLeaveJust cX1_canLeaveJust 5 (some .boolean), Cond.methodLink RX1 63 yX1_everybody, Cond.instanceMethod yX1_everybody, Cond.selects RX1 yX1_everybody yX1_everybody, Cond.code yX1_everybody cX1_everybody 1 (some .int), Cond.methodLink RX1 56 yX1_slipsOfOne, Cond.instanceMethod yX1_slipsOfOne, Cond.selects RX1 yX1_slipsOfOne yX1_slipsOfOne, Cond.code yX1_slipsOfOne cX1_slipsOfOne 2 (some .int), Cond.methodLink RX1 73 yJ6_bitCount_0f7a4, Cond.static yJ6_bitCount_0f7a4, Cond.initialized RJ6, Cond.code yJ6_bitCount_0f7a4 cJ6_bitCount_0f7a4 1 (some .int)]
def wsX4_counts_r4 : List Cond := [Cond.constant RJ6 265 (1431655765), Cond.constant RJ6 266 (858993459), Cond.constant RJ6 267 (252645135), Cond.methodLink RX1 52 yX1_taken, Cond.instanceMethod yX1_taken, Cond.selects RX1 yX1_taken yX1_taken, Cond.code yX1_taken cX1_taken 1 (some .int)]
def wsX4_counts : List Cond := .code yX4_counts cX4_counts 3 (some .int) :: ((wsX4_counts_r1 ++ (wsX4_counts_r2 ++ (wsX4_counts_r3 ++ wsX4_counts_r4))) ++ wsX40 ++ wsX00 ++ wsX10)
def wsX4_sheet_r1 : List Cond := [Cond.fieldLink RX4 36 "LoserDraws" "lastFault" "I", Cond.methodLink RX4 170 yX4_placeOf, Cond.instanceMethod yX4_placeOf, Cond.selects RX4 yX4_placeOf yX4_placeOf, Cond.initialized RX4, Cond.code yX4_placeOf cX4_placeOf 2 (some (.object "LoserDraws$Row")), Cond.fieldLink RX4 23 "LoserDraws" "sheets" "[LLoserDraws$Row;", Cond.methodLink RX4 40 yX4_isSheet, Cond.static yX4_isSheet, Cond.code yX4_isSheet cX4_isSheet 1 (some .boolean), Cond.methodLink RX4 44 yX4_isLane, Cond.static yX4_isLane, Cond.code yX4_isLane cX4_isLane 1 (some .boolean), Cond.methodLink RX4 55 yX4_faulted, Cond.instanceMethod yX4_faulted, Cond.selects RX4 yX4_faulted yX4_faulted, Cond.code yX4_faulted cX4_faulted 2 (some .int), Cond.instanceMethod yX2_begin, Cond.initialized RX2, Cond.selects RX2 yX2_begin yX2_begin, Cond.code yX2_begin cX2_begin 4 none, Cond.fieldLink RX2 15 "LoserDraws$Row" "isThere" "Z", Cond.fieldLink RX2 19 "LoserDraws$Row" "lane" "I", Cond.fieldLink RX2 9 "LoserDraws$Row" "cells" "[I"]
def wsX4_sheet_r2 : List Cond := [Cond.methodLink RX2 23 Lib.Math.min.name, Cond.static Lib.Math.min.name, Cond.initialized "java/lang/Math", Cond.code Lib.Math.min.name Lib.Math.min.code 2 (some .int), Cond.methodLink RX2 29 Lib.Math.max.name, Cond.static Lib.Math.max.name, Cond.code Lib.Math.max.name Lib.Math.max.code 2 (some .int), Cond.fieldLink RX2 32 "LoserDraws$Row" "length" "I"]
def wsX4_sheet : List Cond := .code yX4_sheet cX4_sheet 5 (some .int) :: ((wsX4_sheet_r1 ++ wsX4_sheet_r2) ++ wsX40 ++ wsX20)
def wsX4_lose : List Cond := .code yX4_lose cX4_lose 3 (some .int) :: ([.methodLink RX4 40 yX4_isSheet, .static yX4_isSheet, .initialized RX4, .code yX4_isSheet cX4_isSheet 1 (some .boolean), .methodLink RX4 47 yX4_rowOf, .instanceMethod yX4_rowOf, .selects RX4 yX4_rowOf yX4_rowOf, .code yX4_rowOf cX4_rowOf 3 (some (.object "LoserDraws$Row")), .methodLink RX4 170 yX4_placeOf, .instanceMethod yX4_placeOf, .selects RX4 yX4_placeOf yX4_placeOf, .code yX4_placeOf cX4_placeOf 2 (some (.object "LoserDraws$Row")), .fieldLink RX4 23 "LoserDraws" "sheets" "[LLoserDraws$Row;", .instanceMethod yX2_end, .initialized RX2, .selects RX2 yX2_end yX2_end, .code yX2_end cX2_end 1 none, .fieldLink RX2 15 "LoserDraws$Row" "isThere" "Z"] ++ wsX20 ++ wsX40)
def wsX4_put_r1 : List Cond := [Cond.fieldLink RX4 36 "LoserDraws" "lastFault" "I", Cond.methodLink RX4 40 yX4_isSheet, Cond.static yX4_isSheet, Cond.initialized RX4, Cond.code yX4_isSheet cX4_isSheet 1 (some .boolean), Cond.methodLink RX4 47 yX4_rowOf, Cond.instanceMethod yX4_rowOf, Cond.selects RX4 yX4_rowOf yX4_rowOf, Cond.code yX4_rowOf cX4_rowOf 3 (some (.object "LoserDraws$Row")), Cond.methodLink RX4 170 yX4_placeOf, Cond.instanceMethod yX4_placeOf, Cond.selects RX4 yX4_placeOf yX4_placeOf, Cond.code yX4_placeOf cX4_placeOf 2 (some (.object "LoserDraws$Row")), Cond.fieldLink RX4 23 "LoserDraws" "sheets" "[LLoserDraws$Row;", Cond.methodLink RX4 55 yX4_faulted, Cond.instanceMethod yX4_faulted, Cond.selects RX4 yX4_faulted yX4_faulted, Cond.code yX4_faulted cX4_faulted 2 (some .int), Cond.instanceMethod yX2_holds, Cond.initialized RX2, Cond.selects RX2 yX2_holds yX2_holds, Cond.code yX2_holds cX2_holds 3 (some .boolean), Cond.fieldLink RX2 32 "LoserDraws$Row" "length" "I", Cond.instanceMethod yX2_set]
def wsX4_put_r2 : List Cond := [Cond.selects RX2 yX2_set yX2_set, Cond.code yX2_set cX2_set 3 none, Cond.fieldLink RX2 9 "LoserDraws$Row" "cells" "[I", Cond.methodLink RX2 35 yX2_cut, Cond.instanceMethod yX2_cut, Cond.selects RX2 yX2_cut yX2_cut, Cond.code yX2_cut cX2_cut 2 (some .int), Cond.fieldLink RX2 19 "LoserDraws$Row" "lane" "I"]
def wsX4_put : List Cond := .code yX4_put cX4_put 5 (some .int) :: ((wsX4_put_r1 ++ wsX4_put_r2) ++ wsX40 ++ wsX20)
def wsX4_cell_r1 : List Cond := [Cond.fieldLink RX4 36 "LoserDraws" "lastFault" "I", Cond.constantLong RX4 117 (-9223372036854775808), Cond.methodLink RX4 40 yX4_isSheet, Cond.static yX4_isSheet, Cond.initialized RX4, Cond.code yX4_isSheet cX4_isSheet 1 (some .boolean), Cond.methodLink RX4 44 yX4_isLane, Cond.static yX4_isLane, Cond.code yX4_isLane cX4_isLane 1 (some .boolean), Cond.methodLink RX4 47 yX4_rowOf, Cond.instanceMethod yX4_rowOf, Cond.selects RX4 yX4_rowOf yX4_rowOf, Cond.code yX4_rowOf cX4_rowOf 3 (some (.object "LoserDraws$Row")), Cond.methodLink RX4 170 yX4_placeOf, Cond.instanceMethod yX4_placeOf, Cond.selects RX4 yX4_placeOf yX4_placeOf, Cond.code yX4_placeOf cX4_placeOf 2 (some (.object "LoserDraws$Row")), Cond.fieldLink RX4 23 "LoserDraws" "sheets" "[LLoserDraws$Row;", Cond.methodLink RX4 51 yX4_faultOf, Cond.static yX4_faultOf, Cond.code yX4_faultOf cX4_faultOf 4 (some .int), Cond.instanceMethod yX2_holds, Cond.initialized RX2, Cond.selects RX2 yX2_holds yX2_holds]
def wsX4_cell_r2 : List Cond := [Cond.code yX2_holds cX2_holds 3 (some .boolean), Cond.fieldLink RX2 32 "LoserDraws$Row" "length" "I", Cond.instanceMethod yX2_at, Cond.selects RX2 yX2_at yX2_at, Cond.code yX2_at cX2_at 2 (some .int), Cond.fieldLink RX2 9 "LoserDraws$Row" "cells" "[I"]
def wsX4_cell : List Cond := .code yX4_cell cX4_cell 6 (some .long) :: ((wsX4_cell_r1 ++ wsX4_cell_r2) ++ wsX40 ++ wsX20)
def wsX4_copy_r1 : List Cond := [Cond.fieldLink RX4 36 "LoserDraws" "lastFault" "I", Cond.methodLink RX4 195 arraycopyName, Cond.native arraycopyName, Cond.static arraycopyName, Cond.initialized "java/lang/System", Cond.methodLink RX4 40 yX4_isSheet, Cond.static yX4_isSheet, Cond.initialized RX4, Cond.code yX4_isSheet cX4_isSheet 1 (some .boolean), Cond.methodLink RX4 47 yX4_rowOf, Cond.instanceMethod yX4_rowOf, Cond.selects RX4 yX4_rowOf yX4_rowOf, Cond.code yX4_rowOf cX4_rowOf 3 (some (.object "LoserDraws$Row")), Cond.methodLink RX4 170 yX4_placeOf, Cond.instanceMethod yX4_placeOf, Cond.selects RX4 yX4_placeOf yX4_placeOf, Cond.code yX4_placeOf cX4_placeOf 2 (some (.object "LoserDraws$Row")), Cond.fieldLink RX4 23 "LoserDraws" "sheets" "[LLoserDraws$Row;", Cond.methodLink RX4 55 yX4_faulted, Cond.instanceMethod yX4_faulted, Cond.selects RX4 yX4_faulted yX4_faulted, Cond.code yX4_faulted cX4_faulted 2 (some .int), Cond.instanceMethod yX2_holds, Cond.initialized RX2]
def wsX4_copy_r2 : List Cond := [Cond.selects RX2 yX2_holds yX2_holds, Cond.code yX2_holds cX2_holds 3 (some .boolean), Cond.fieldLink RX2 32 "LoserDraws$Row" "length" "I"]
def wsX4_copy : List Cond := .code yX4_copy cX4_copy 8 (some .int) :: ((wsX4_copy_r1 ++ wsX4_copy_r2) ++ wsX40 ++ wsX20)
def wsX4_leaveInTrace : List Cond := .code yX4_leaveInTrace cX4_leaveInTrace 2 none :: ([.fieldLink RX4 213 "LoserDraws" "traceNow" "I"] ++ wsX40)
def wsX4_citizenTells : List Cond := .code yX4_citizenTells cX4_citizenTells 2 (some .int) :: ([.methodLink RX4 210 yX4_leaveInTrace, .instanceMethod yX4_leaveInTrace, .selects RX4 yX4_leaveInTrace yX4_leaveInTrace, .initialized RX4, .code yX4_leaveInTrace cX4_leaveInTrace 2 none, .fieldLink RX4 213 "LoserDraws" "traceNow" "I"] ++ wsX40)
def wsX4_richTells : List Cond := .code yX4_richTells cX4_richTells 2 (some .int) :: ([.methodLink RX4 210 yX4_leaveInTrace, .instanceMethod yX4_leaveInTrace, .selects RX4 yX4_leaveInTrace yX4_leaveInTrace, .initialized RX4, .code yX4_leaveInTrace cX4_leaveInTrace 2 none, .fieldLink RX4 213 "LoserDraws" "traceNow" "I", .methodLink RX4 207 yX4_citizenTells, .instanceMethod yX4_citizenTells, .selects RX4 yX4_citizenTells yX4_citizenTells, .code yX4_citizenTells cX4_citizenTells 2 (some .int)] ++ wsX40)
def wsX4_miserTells : List Cond := .code yX4_miserTells cX4_miserTells 3 (some .int) :: ([.methodLink RX4 210 yX4_leaveInTrace, .instanceMethod yX4_leaveInTrace, .selects RX4 yX4_leaveInTrace yX4_leaveInTrace, .initialized RX4, .code yX4_leaveInTrace cX4_leaveInTrace 2 none, .fieldLink RX4 213 "LoserDraws" "traceNow" "I", .methodLink RX4 204 yX4_richTells, .instanceMethod yX4_richTells, .selects RX4 yX4_richTells yX4_richTells, .code yX4_richTells cX4_richTells 2 (some .int), .methodLink RX4 207 yX4_citizenTells, .instanceMethod yX4_citizenTells, .selects RX4 yX4_citizenTells yX4_citizenTells, .code yX4_citizenTells cX4_citizenTells 2 (some .int)] ++ wsX40)
def wsX4_tell : List Cond := .code yX4_tell cX4_tell 3 (some .int) :: ([.methodLink RX4 72 yX4_citizen, .instanceMethod yX4_citizen, .selects RX4 yX4_citizen yX4_citizen, .initialized RX4, .code yX4_citizen cX4_citizen 2 (some (.object "LoserDraws$Citizen")), .fieldLink RX4 69 "LoserDraws" "people" "I", .fieldLink RX4 13 "LoserDraws" "citizens" "[LLoserDraws$Citizen;", .methodLink RX4 201 yX4_miserTells, .instanceMethod yX4_miserTells, .selects RX4 yX4_miserTells yX4_miserTells, .code yX4_miserTells cX4_miserTells 3 (some .int), .methodLink RX4 210 yX4_leaveInTrace, .instanceMethod yX4_leaveInTrace, .selects RX4 yX4_leaveInTrace yX4_leaveInTrace, .code yX4_leaveInTrace cX4_leaveInTrace 2 none, .fieldLink RX4 213 "LoserDraws" "traceNow" "I", .methodLink RX4 204 yX4_richTells, .instanceMethod yX4_richTells, .selects RX4 yX4_richTells yX4_richTells, .code yX4_richTells cX4_richTells 2 (some .int), .methodLink RX4 207 yX4_citizenTells, .instanceMethod yX4_citizenTells, .selects RX4 yX4_citizenTells yX4_citizenTells, .code yX4_citizenTells cX4_citizenTells 2 (some .int)] ++ wsX00 ++ wsX40)
def wsX4_call : List Cond := .code yX4_call cX4_call 3 (some .int) :: ([.methodLink RX4 72 yX4_citizen, .instanceMethod yX4_citizen, .selects RX4 yX4_citizen yX4_citizen, .initialized RX4, .code yX4_citizen cX4_citizen 2 (some (.object "LoserDraws$Citizen")), .fieldLink RX4 69 "LoserDraws" "people" "I", .fieldLink RX4 13 "LoserDraws" "citizens" "[LLoserDraws$Citizen;", .methodLink RX4 210 yX4_leaveInTrace, .instanceMethod yX4_leaveInTrace, .selects RX4 yX4_leaveInTrace yX4_leaveInTrace, .code yX4_leaveInTrace cX4_leaveInTrace 2 none, .fieldLink RX4 213 "LoserDraws" "traceNow" "I"] ++ wsX00 ++ wsX40)
def wsX4_as : List Cond := .code yX4_as cX4_as 4 (some .int) :: ([.fieldLink RX4 36 "LoserDraws" "lastFault" "I", .methodLink RX4 72 yX4_citizen, .instanceMethod yX4_citizen, .selects RX4 yX4_citizen yX4_citizen, .initialized RX4, .code yX4_citizen cX4_citizen 2 (some (.object "LoserDraws$Citizen")), .fieldLink RX4 69 "LoserDraws" "people" "I", .fieldLink RX4 13 "LoserDraws" "citizens" "[LLoserDraws$Citizen;", .methodLink RX4 55 yX4_faulted, .instanceMethod yX4_faulted, .selects RX4 yX4_faulted yX4_faulted, .code yX4_faulted cX4_faulted 2 (some .int)] ++ wsX40 ++ wsX00)
def wsX4_trace : List Cond := .code yX4_trace cX4_trace 1 (some .int) :: ([.fieldLink RX4 213 "LoserDraws" "traceNow" "I"] ++ wsX40)
def wsX4_fault : List Cond := .code yX4_fault cX4_fault 1 (some .int) :: ([.fieldLink RX4 36 "LoserDraws" "lastFault" "I"] ++ wsX40)
def wsX4_many : List Cond := .code yX4_many cX4_many 2 (some .int) :: ([.fieldLink RX4 69 "LoserDraws" "people" "I", .fieldLink RX4 96 "LoserDraws" "drawnNow" "I", .fieldLink RX4 99 "LoserDraws" "priceNow" "I", .fieldLink RX4 160 "LoserDraws" "readingsKept" "I", .methodLink RX4 93 yX4_slipsAhead, .instanceMethod yX4_slipsAhead, .selects RX4 yX4_slipsAhead yX4_slipsAhead, .initialized RX4, .code yX4_slipsAhead cX4_slipsAhead 5 (some .int), .methodLink RX4 72 yX4_citizen, .instanceMethod yX4_citizen, .selects RX4 yX4_citizen yX4_citizen, .code yX4_citizen cX4_citizen 2 (some (.object "LoserDraws$Citizen")), .fieldLink RX4 13 "LoserDraws" "citizens" "[LLoserDraws$Citizen;", .instanceMethod yX0_slips, .initialized RX0, .selects RX0 yX0_slips yX0_slips, .code yX0_slips cX0_slips 1 (some .int), .fieldLink RX0 7 "LoserDraws$Citizen" "kind" "I", .fieldLink RX0 13 "LoserDraws$Citizen" "tickets" "I", .static yX4_slipsOf, .code yX4_slipsOf cX4_slipsOf 3 (some .int)] ++ wsX40 ++ wsX00)
def wsX5_init : List Cond := .code yX5_init cX5_init 2 none :: ([.methodLink RX5 1 objectInit, .instanceMethod objectInit, .code objectInit ⟨#[0xb1]⟩ 1 none, .arrayClass .int, .fieldLink RX5 7 "LoserDrawsModel" "kindOf" "[I", .fieldLink RX5 13 "LoserDrawsModel" "ticketsOf" "[I", .fieldLink RX5 16 "LoserDrawsModel" "geeseOf" "[I", .fieldLink RX5 19 "LoserDrawsModel" "readKind" "[I", .fieldLink RX5 22 "LoserDrawsModel" "readTickets" "[I", .fieldLink RX5 25 "LoserDrawsModel" "readGeese" "[I", .fieldLink RX5 28 "LoserDrawsModel" "readingSet" "[I", .fieldLink RX5 31 "LoserDrawsModel" "sheetSize" "[I", .fieldLink RX5 34 "LoserDrawsModel" "sheetLane" "[I", .fieldLink RX5 37 "LoserDrawsModel" "sheet" "[I", .fieldLink RX5 40 "LoserDrawsModel" "hands" "[I"] ++ wsX50)
def wsX5_in : List Cond := .code yX5_in cX5_in 6 (some .boolean) :: ([])
def wsX5_lost : List Cond := .code yX5_lost cX5_lost 0 (some .long) :: ([.constantLong RX5 43 (-9223372036854775808)])
def wsX5_isIn : List Cond := .code yX5_isIn cX5_isIn 2 (some .boolean) :: ([])
def wsX5_bits : List Cond := .code yX5_bits cX5_bits 3 (some .int) :: ([])
def wsX5_share : List Cond := .code yX5_share cX5_share 11 (some .long) :: ([])
def wsX5_isAbove : List Cond := .code yX5_isAbove cX5_isAbove 21 (some .boolean) :: ([])
def wsX5_waysOf : List Cond := .code yX5_waysOf cX5_waysOf 5 (some .long) :: ([])
def wsX5_refused : List Cond := .code yX5_refused cX5_refused 2 (some .int) :: ([.fieldLink RX5 45 "LoserDrawsModel" "fault" "I"] ++ wsX50)
def wsX5_failed : List Cond := .code yX5_failed cX5_failed 2 (some .int) :: ([.fieldLink RX5 45 "LoserDrawsModel" "fault" "I"] ++ wsX50)
def wsX5_failedLong : List Cond := .code yX5_failedLong cX5_failedLong 2 (some .long) :: ([.fieldLink RX5 45 "LoserDrawsModel" "fault" "I", .methodLink RX5 49 yX5_lost, .static yX5_lost, .initialized RX5, .code yX5_lost cX5_lost 0 (some .long), .constantLong RX5 43 (-9223372036854775808)] ++ wsX50)
def wsX5_noCitizen : List Cond := .code yX5_noCitizen cX5_noCitizen 2 (some .boolean) :: ([.fieldLink RX5 53 "LoserDrawsModel" "citizens" "I", .methodLink RX5 56 yX5_in, .static yX5_in, .initialized RX5, .code yX5_in cX5_in 6 (some .boolean)] ++ wsX50)
def wsX5_everybody : List Cond := .code yX5_everybody cX5_everybody 1 (some .int) :: ([.fieldLink RX5 53 "LoserDrawsModel" "citizens" "I"] ++ wsX50)
def wsX5_codeAt : List Cond := .code yX5_codeAt cX5_codeAt 3 (some .int) :: ([.fieldLink RX5 60 "LoserDrawsModel" "readAt" "I", .fieldLink RX5 37 "LoserDrawsModel" "sheet" "[I"] ++ wsX50)
def wsX5_figure : List Cond := .code yX5_figure cX5_figure 7 (some .int) :: ([.fieldLink RX5 60 "LoserDrawsModel" "readAt" "I", .methodLink RX5 63 yX5_codeAt, .instanceMethod yX5_codeAt, .selects RX5 yX5_codeAt yX5_codeAt, .initialized RX5, .code yX5_codeAt cX5_codeAt 3 (some .int), .fieldLink RX5 37 "LoserDrawsModel" "sheet" "[I", .methodLink RX5 56 yX5_in, .static yX5_in, .code yX5_in cX5_in 6 (some .boolean)] ++ wsX50)
def wsX5_readsCitizen : List Cond := .code yX5_readsCitizen cX5_readsCitizen 8 (some .boolean) :: ([.fieldLink RX5 67 "LoserDrawsModel" "readCitizens" "I", .fieldLink RX5 60 "LoserDrawsModel" "readAt" "I", .fieldLink RX5 19 "LoserDrawsModel" "readKind" "[I", .fieldLink RX5 22 "LoserDrawsModel" "readTickets" "[I", .fieldLink RX5 25 "LoserDrawsModel" "readGeese" "[I", .fieldLink RX5 74 "LoserDrawsModel" "readWishing" "I", .methodLink RX5 63 yX5_codeAt, .instanceMethod yX5_codeAt, .selects RX5 yX5_codeAt yX5_codeAt, .initialized RX5, .code yX5_codeAt cX5_codeAt 3 (some .int), .fieldLink RX5 37 "LoserDrawsModel" "sheet" "[I", .methodLink RX5 70 yX5_figure, .instanceMethod yX5_figure, .selects RX5 yX5_figure yX5_figure, .code yX5_figure cX5_figure 7 (some .int), .methodLink RX5 56 yX5_in, .static yX5_in, .code yX5_in cX5_in 6 (some .boolean)] ++ wsX50)
def wsX5_readsRepublic_r1 : List Cond := [Cond.fieldLink RX5 60 "LoserDrawsModel" "readAt" "I", Cond.fieldLink RX5 67 "LoserDrawsModel" "readCitizens" "I", Cond.fieldLink RX5 74 "LoserDrawsModel" "readWishing" "I", Cond.fieldLink RX5 77 "LoserDrawsModel" "readDrawn" "I", Cond.fieldLink RX5 80 "LoserDrawsModel" "readPrice" "I", Cond.methodLink RX5 63 yX5_codeAt, Cond.instanceMethod yX5_codeAt, Cond.selects RX5 yX5_codeAt yX5_codeAt, Cond.initialized RX5, Cond.code yX5_codeAt cX5_codeAt 3 (some .int), Cond.fieldLink RX5 37 "LoserDrawsModel" "sheet" "[I", Cond.methodLink RX5 70 yX5_figure, Cond.instanceMethod yX5_figure, Cond.selects RX5 yX5_figure yX5_figure, Cond.code yX5_figure cX5_figure 7 (some .int), Cond.methodLink RX5 56 yX5_in, Cond.static yX5_in, Cond.code yX5_in cX5_in 6 (some .boolean), Cond.methodLink RX5 83 yX5_readsCitizen, Cond.instanceMethod yX5_readsCitizen, Cond.selects RX5 yX5_readsCitizen yX5_readsCitizen, Cond.code yX5_readsCitizen cX5_readsCitizen 8 (some .boolean), Cond.fieldLink RX5 19 "LoserDrawsModel" "readKind" "[I", Cond.fieldLink RX5 22 "LoserDrawsModel" "readTickets" "[I"]
def wsX5_readsRepublic_r2 : List Cond := [Cond.fieldLink RX5 25 "LoserDrawsModel" "readGeese" "[I"]
def wsX5_readsRepublic : List Cond := .code yX5_readsRepublic cX5_readsRepublic 4 (some .boolean) :: ((wsX5_readsRepublic_r1 ++ wsX5_readsRepublic_r2) ++ wsX50)
def wsX5_isBeyond : List Cond := .code yX5_isBeyond cX5_isBeyond 4 (some .boolean) :: ([])
def wsX5_cellsBarred : List Cond := .code yX5_cellsBarred cX5_cellsBarred 6 (some .int) :: ([.fieldLink RX5 31 "LoserDrawsModel" "sheetSize" "[I", .fieldLink RX5 34 "LoserDrawsModel" "sheetLane" "[I", .methodLink RX5 87 yX5_failed, .instanceMethod yX5_failed, .selects RX5 yX5_failed yX5_failed, .initialized RX5, .code yX5_failed cX5_failed 2 (some .int), .fieldLink RX5 45 "LoserDrawsModel" "fault" "I", .methodLink RX5 91 yX5_isBeyond, .static yX5_isBeyond, .code yX5_isBeyond cX5_isBeyond 4 (some .boolean)] ++ wsX50)
def wsX5_noSheet : List Cond := .code yX5_noSheet cX5_noSheet 1 (some .boolean) :: ([.constantLong RX5 197 (3), .methodLink RX5 56 yX5_in, .static yX5_in, .initialized RX5, .code yX5_in cX5_in 6 (some .boolean)])
def wsX5_republic_r1 : List Cond := [Cond.constantLong RX5 102 (2), Cond.fieldLink RX5 60 "LoserDrawsModel" "readAt" "I", Cond.fieldLink RX5 77 "LoserDrawsModel" "readDrawn" "I", Cond.fieldLink RX5 111 "LoserDrawsModel" "drawnNow" "I", Cond.fieldLink RX5 80 "LoserDrawsModel" "readPrice" "I", Cond.fieldLink RX5 114 "LoserDrawsModel" "priceNow" "I", Cond.fieldLink RX5 67 "LoserDrawsModel" "readCitizens" "I", Cond.fieldLink RX5 53 "LoserDrawsModel" "citizens" "I", Cond.fieldLink RX5 74 "LoserDrawsModel" "readWishing" "I", Cond.fieldLink RX5 117 "LoserDrawsModel" "wishing" "I", Cond.fieldLink RX5 7 "LoserDrawsModel" "kindOf" "[I", Cond.fieldLink RX5 19 "LoserDrawsModel" "readKind" "[I", Cond.fieldLink RX5 13 "LoserDrawsModel" "ticketsOf" "[I", Cond.fieldLink RX5 22 "LoserDrawsModel" "readTickets" "[I", Cond.fieldLink RX5 16 "LoserDrawsModel" "geeseOf" "[I", Cond.fieldLink RX5 25 "LoserDrawsModel" "readGeese" "[I", Cond.fieldLink RX5 120 "LoserDrawsModel" "readings" "I", Cond.methodLink RX5 95 yX5_noSheet, Cond.static yX5_noSheet, Cond.initialized RX5, Cond.code yX5_noSheet cX5_noSheet 1 (some .boolean), Cond.constantLong RX5 197 (3), Cond.methodLink RX5 56 yX5_in, Cond.static yX5_in]
def wsX5_republic_r2 : List Cond := [Cond.code yX5_in cX5_in 6 (some .boolean), Cond.methodLink RX5 99 yX5_refused, Cond.instanceMethod yX5_refused, Cond.selects RX5 yX5_refused yX5_refused, Cond.code yX5_refused cX5_refused 2 (some .int), Cond.fieldLink RX5 45 "LoserDrawsModel" "fault" "I", Cond.methodLink RX5 104 yX5_cellsBarred, Cond.instanceMethod yX5_cellsBarred, Cond.selects RX5 yX5_cellsBarred yX5_cellsBarred, Cond.code yX5_cellsBarred cX5_cellsBarred 6 (some .int), Cond.fieldLink RX5 31 "LoserDrawsModel" "sheetSize" "[I", Cond.fieldLink RX5 34 "LoserDrawsModel" "sheetLane" "[I", Cond.methodLink RX5 87 yX5_failed, Cond.instanceMethod yX5_failed, Cond.selects RX5 yX5_failed yX5_failed, Cond.code yX5_failed cX5_failed 2 (some .int), Cond.methodLink RX5 91 yX5_isBeyond, Cond.static yX5_isBeyond, Cond.code yX5_isBeyond cX5_isBeyond 4 (some .boolean), Cond.methodLink RX5 108 yX5_readsRepublic, Cond.instanceMethod yX5_readsRepublic, Cond.selects RX5 yX5_readsRepublic yX5_readsRepublic, Cond.code yX5_readsRepublic cX5_readsRepublic 4 (some .boolean), Cond.methodLink RX5 63 yX5_codeAt]
def wsX5_republic_r3 : List Cond := [Cond.instanceMethod yX5_codeAt, Cond.selects RX5 yX5_codeAt yX5_codeAt, Cond.code yX5_codeAt cX5_codeAt 3 (some .int), Cond.fieldLink RX5 37 "LoserDrawsModel" "sheet" "[I", Cond.methodLink RX5 70 yX5_figure, Cond.instanceMethod yX5_figure, Cond.selects RX5 yX5_figure yX5_figure, Cond.code yX5_figure cX5_figure 7 (some .int), Cond.methodLink RX5 83 yX5_readsCitizen, Cond.instanceMethod yX5_readsCitizen, Cond.selects RX5 yX5_readsCitizen yX5_readsCitizen, Cond.code yX5_readsCitizen cX5_readsCitizen 8 (some .boolean)]
def wsX5_republic : List Cond := .code yX5_republic cX5_republic 7 (some .int) :: ((wsX5_republic_r1 ++ (wsX5_republic_r2 ++ wsX5_republic_r3)) ++ wsX50)
def wsX5_slipsOf : List Cond := .code yX5_slipsOf cX5_slipsOf 3 (some .int) :: ([.fieldLink RX5 13 "LoserDrawsModel" "ticketsOf" "[I", .fieldLink RX5 7 "LoserDrawsModel" "kindOf" "[I"] ++ wsX50)
def wsX5_slipsOfAll : List Cond := .code yX5_slipsOfAll cX5_slipsOfAll 4 (some .int) :: ([.fieldLink RX5 53 "LoserDrawsModel" "citizens" "I", .methodLink RX5 123 yX5_isIn, .static yX5_isIn, .initialized RX5, .code yX5_isIn cX5_isIn 2 (some .boolean), .methodLink RX5 126 yX5_slipsOf, .instanceMethod yX5_slipsOf, .selects RX5 yX5_slipsOf yX5_slipsOf, .code yX5_slipsOf cX5_slipsOf 3 (some .int), .fieldLink RX5 13 "LoserDrawsModel" "ticketsOf" "[I", .fieldLink RX5 7 "LoserDrawsModel" "kindOf" "[I"] ++ wsX50)
def wsX5_drawnOf : List Cond := .code yX5_drawnOf cX5_drawnOf 2 (some .int) :: ([.fieldLink RX5 111 "LoserDrawsModel" "drawnNow" "I"] ++ wsX50)
def wsX5_ofCitizen : List Cond := .code yX5_ofCitizen cX5_ofCitizen 3 (some .int) :: ([.fieldLink RX5 7 "LoserDrawsModel" "kindOf" "[I", .fieldLink RX5 13 "LoserDrawsModel" "ticketsOf" "[I", .fieldLink RX5 16 "LoserDrawsModel" "geeseOf" "[I", .fieldLink RX5 117 "LoserDrawsModel" "wishing" "I", .methodLink RX5 129 yX5_noCitizen, .instanceMethod yX5_noCitizen, .selects RX5 yX5_noCitizen yX5_noCitizen, .initialized RX5, .code yX5_noCitizen cX5_noCitizen 2 (some .boolean), .fieldLink RX5 53 "LoserDrawsModel" "citizens" "I", .methodLink RX5 56 yX5_in, .static yX5_in, .code yX5_in cX5_in 6 (some .boolean), .methodLink RX5 123 yX5_isIn, .static yX5_isIn, .code yX5_isIn cX5_isIn 2 (some .boolean), .methodLink RX5 126 yX5_slipsOf, .instanceMethod yX5_slipsOf, .selects RX5 yX5_slipsOf yX5_slipsOf, .code yX5_slipsOf cX5_slipsOf 3 (some .int), .methodLink RX5 132 yX5_slipsOfAll, .instanceMethod yX5_slipsOfAll, .selects RX5 yX5_slipsOfAll yX5_slipsOfAll, .code yX5_slipsOfAll cX5_slipsOfAll 4 (some .int)] ++ wsX50)
def wsX5_drawn : List Cond := .code yX5_drawn cX5_drawn 3 (some .int) :: ([.constantLong RX5 135 (6), .fieldLink RX5 53 "LoserDrawsModel" "citizens" "I", .fieldLink RX5 111 "LoserDrawsModel" "drawnNow" "I", .methodLink RX5 56 yX5_in, .static yX5_in, .initialized RX5, .code yX5_in cX5_in 6 (some .boolean)] ++ wsX50)
def wsX5_price : List Cond := .code yX5_price cX5_price 3 (some .int) :: ([.constantLong RX5 137 (9), .fieldLink RX5 53 "LoserDrawsModel" "citizens" "I", .fieldLink RX5 114 "LoserDrawsModel" "priceNow" "I", .methodLink RX5 56 yX5_in, .static yX5_in, .initialized RX5, .code yX5_in cX5_in 6 (some .boolean)] ++ wsX50)
def wsX5_wish : List Cond := .code yX5_wish cX5_wish 4 (some .int) :: ([.fieldLink RX5 117 "LoserDrawsModel" "wishing" "I", .methodLink RX5 129 yX5_noCitizen, .instanceMethod yX5_noCitizen, .selects RX5 yX5_noCitizen yX5_noCitizen, .initialized RX5, .code yX5_noCitizen cX5_noCitizen 2 (some .boolean), .fieldLink RX5 53 "LoserDrawsModel" "citizens" "I", .methodLink RX5 56 yX5_in, .static yX5_in, .code yX5_in cX5_in 6 (some .boolean), .methodLink RX5 123 yX5_isIn, .static yX5_isIn, .code yX5_isIn cX5_isIn 2 (some .boolean)] ++ wsX50)
def wsX5_ownerOf : List Cond := .code yX5_ownerOf cX5_ownerOf 4 (some .int) :: ([.methodLink RX5 126 yX5_slipsOf, .instanceMethod yX5_slipsOf, .selects RX5 yX5_slipsOf yX5_slipsOf, .initialized RX5, .code yX5_slipsOf cX5_slipsOf 3 (some .int), .fieldLink RX5 13 "LoserDrawsModel" "ticketsOf" "[I", .fieldLink RX5 7 "LoserDrawsModel" "kindOf" "[I"] ++ wsX50)
def wsX5_doesPass : List Cond := .code yX5_doesPass cX5_doesPass 2 (some .boolean) :: ([.fieldLink RX5 117 "LoserDrawsModel" "wishing" "I", .methodLink RX5 139 yX5_bits, .static yX5_bits, .initialized RX5, .code yX5_bits cX5_bits 3 (some .int)] ++ wsX50)
def wsX5_freeBy_r1 : List Cond := [Cond.fieldLink RX5 142 "LoserDrawsModel" "firstWrong" "I", Cond.fieldLink RX5 37 "LoserDrawsModel" "sheet" "[I", Cond.methodLink RX5 145 yX5_everybody, Cond.instanceMethod yX5_everybody, Cond.selects RX5 yX5_everybody yX5_everybody, Cond.initialized RX5, Cond.code yX5_everybody cX5_everybody 1 (some .int), Cond.fieldLink RX5 53 "LoserDrawsModel" "citizens" "I", Cond.methodLink RX5 132 yX5_slipsOfAll, Cond.instanceMethod yX5_slipsOfAll, Cond.selects RX5 yX5_slipsOfAll yX5_slipsOfAll, Cond.code yX5_slipsOfAll cX5_slipsOfAll 4 (some .int), Cond.methodLink RX5 123 yX5_isIn, Cond.static yX5_isIn, Cond.code yX5_isIn cX5_isIn 2 (some .boolean), Cond.methodLink RX5 126 yX5_slipsOf, Cond.instanceMethod yX5_slipsOf, Cond.selects RX5 yX5_slipsOf yX5_slipsOf, Cond.code yX5_slipsOf cX5_slipsOf 3 (some .int), Cond.fieldLink RX5 13 "LoserDrawsModel" "ticketsOf" "[I", Cond.fieldLink RX5 7 "LoserDrawsModel" "kindOf" "[I", Cond.methodLink RX5 56 yX5_in, Cond.static yX5_in, Cond.code yX5_in cX5_in 6 (some .boolean)]
def wsX5_freeBy_r2 : List Cond := [Cond.methodLink RX5 149 yX5_ownerOf, Cond.instanceMethod yX5_ownerOf, Cond.selects RX5 yX5_ownerOf yX5_ownerOf, Cond.code yX5_ownerOf cX5_ownerOf 4 (some .int)]
def wsX5_freeBy : List Cond := .code yX5_freeBy cX5_freeBy 8 (some .int) :: ((wsX5_freeBy_r1 ++ wsX5_freeBy_r2) ++ wsX50)
def wsX5_draw_r1 : List Cond := [Cond.constantLong RX5 102 (2), Cond.constantLong RX5 152 (20), Cond.fieldLink RX5 53 "LoserDrawsModel" "citizens" "I", Cond.fieldLink RX5 142 "LoserDrawsModel" "firstWrong" "I", Cond.methodLink RX5 95 yX5_noSheet, Cond.static yX5_noSheet, Cond.initialized RX5, Cond.code yX5_noSheet cX5_noSheet 1 (some .boolean), Cond.constantLong RX5 197 (3), Cond.methodLink RX5 56 yX5_in, Cond.static yX5_in, Cond.code yX5_in cX5_in 6 (some .boolean), Cond.methodLink RX5 99 yX5_refused, Cond.instanceMethod yX5_refused, Cond.selects RX5 yX5_refused yX5_refused, Cond.code yX5_refused cX5_refused 2 (some .int), Cond.fieldLink RX5 45 "LoserDrawsModel" "fault" "I", Cond.methodLink RX5 104 yX5_cellsBarred, Cond.instanceMethod yX5_cellsBarred, Cond.selects RX5 yX5_cellsBarred yX5_cellsBarred, Cond.code yX5_cellsBarred cX5_cellsBarred 6 (some .int), Cond.fieldLink RX5 31 "LoserDrawsModel" "sheetSize" "[I", Cond.fieldLink RX5 34 "LoserDrawsModel" "sheetLane" "[I", Cond.methodLink RX5 87 yX5_failed]
def wsX5_draw_r2 : List Cond := [Cond.instanceMethod yX5_failed, Cond.selects RX5 yX5_failed yX5_failed, Cond.code yX5_failed cX5_failed 2 (some .int), Cond.methodLink RX5 91 yX5_isBeyond, Cond.static yX5_isBeyond, Cond.code yX5_isBeyond cX5_isBeyond 4 (some .boolean), Cond.methodLink RX5 145 yX5_everybody, Cond.instanceMethod yX5_everybody, Cond.selects RX5 yX5_everybody yX5_everybody, Cond.code yX5_everybody cX5_everybody 1 (some .int), Cond.methodLink RX5 154 yX5_freeBy, Cond.instanceMethod yX5_freeBy, Cond.selects RX5 yX5_freeBy yX5_freeBy, Cond.code yX5_freeBy cX5_freeBy 8 (some .int), Cond.fieldLink RX5 37 "LoserDrawsModel" "sheet" "[I", Cond.methodLink RX5 132 yX5_slipsOfAll, Cond.instanceMethod yX5_slipsOfAll, Cond.selects RX5 yX5_slipsOfAll yX5_slipsOfAll, Cond.code yX5_slipsOfAll cX5_slipsOfAll 4 (some .int), Cond.methodLink RX5 123 yX5_isIn, Cond.static yX5_isIn, Cond.code yX5_isIn cX5_isIn 2 (some .boolean), Cond.methodLink RX5 126 yX5_slipsOf, Cond.instanceMethod yX5_slipsOf]
def wsX5_draw_r3 : List Cond := [Cond.selects RX5 yX5_slipsOf yX5_slipsOf, Cond.code yX5_slipsOf cX5_slipsOf 3 (some .int), Cond.fieldLink RX5 13 "LoserDrawsModel" "ticketsOf" "[I", Cond.fieldLink RX5 7 "LoserDrawsModel" "kindOf" "[I", Cond.methodLink RX5 149 yX5_ownerOf, Cond.instanceMethod yX5_ownerOf, Cond.selects RX5 yX5_ownerOf yX5_ownerOf, Cond.code yX5_ownerOf cX5_ownerOf 4 (some .int), Cond.methodLink RX5 157 yX5_doesPass, Cond.instanceMethod yX5_doesPass, Cond.selects RX5 yX5_doesPass yX5_doesPass, Cond.code yX5_doesPass cX5_doesPass 2 (some .boolean), Cond.fieldLink RX5 117 "LoserDrawsModel" "wishing" "I", Cond.methodLink RX5 139 yX5_bits, Cond.static yX5_bits, Cond.code yX5_bits cX5_bits 3 (some .int)]
def wsX5_draw : List Cond := .code yX5_draw cX5_draw 8 (some .int) :: ((wsX5_draw_r1 ++ (wsX5_draw_r2 ++ wsX5_draw_r3)) ++ wsX50)
def wsX5_allDraws_r1 : List Cond := [Cond.methodLink RX5 145 yX5_everybody, Cond.instanceMethod yX5_everybody, Cond.selects RX5 yX5_everybody yX5_everybody, Cond.initialized RX5, Cond.code yX5_everybody cX5_everybody 1 (some .int), Cond.fieldLink RX5 53 "LoserDrawsModel" "citizens" "I", Cond.methodLink RX5 132 yX5_slipsOfAll, Cond.instanceMethod yX5_slipsOfAll, Cond.selects RX5 yX5_slipsOfAll yX5_slipsOfAll, Cond.code yX5_slipsOfAll cX5_slipsOfAll 4 (some .int), Cond.methodLink RX5 123 yX5_isIn, Cond.static yX5_isIn, Cond.code yX5_isIn cX5_isIn 2 (some .boolean), Cond.methodLink RX5 126 yX5_slipsOf, Cond.instanceMethod yX5_slipsOf, Cond.selects RX5 yX5_slipsOf yX5_slipsOf, Cond.code yX5_slipsOf cX5_slipsOf 3 (some .int), Cond.fieldLink RX5 13 "LoserDrawsModel" "ticketsOf" "[I", Cond.fieldLink RX5 7 "LoserDrawsModel" "kindOf" "[I", Cond.methodLink RX5 160 yX5_drawnOf, Cond.instanceMethod yX5_drawnOf, Cond.selects RX5 yX5_drawnOf yX5_drawnOf, Cond.code yX5_drawnOf cX5_drawnOf 2 (some .int), Cond.fieldLink RX5 111 "LoserDrawsModel" "drawnNow" "I"]
def wsX5_allDraws_r2 : List Cond := [Cond.methodLink RX5 163 yX5_waysOf, Cond.static yX5_waysOf, Cond.code yX5_waysOf cX5_waysOf 5 (some .long)]
def wsX5_allDraws : List Cond := .code yX5_allDraws cX5_allDraws 2 (some .long) :: ((wsX5_allDraws_r1 ++ wsX5_allDraws_r2) ++ wsX50)
def wsX5_drawsOf_r1 : List Cond := [Cond.methodLink RX5 145 yX5_everybody, Cond.instanceMethod yX5_everybody, Cond.selects RX5 yX5_everybody yX5_everybody, Cond.initialized RX5, Cond.code yX5_everybody cX5_everybody 1 (some .int), Cond.fieldLink RX5 53 "LoserDrawsModel" "citizens" "I", Cond.methodLink RX5 132 yX5_slipsOfAll, Cond.instanceMethod yX5_slipsOfAll, Cond.selects RX5 yX5_slipsOfAll yX5_slipsOfAll, Cond.code yX5_slipsOfAll cX5_slipsOfAll 4 (some .int), Cond.methodLink RX5 123 yX5_isIn, Cond.static yX5_isIn, Cond.code yX5_isIn cX5_isIn 2 (some .boolean), Cond.methodLink RX5 126 yX5_slipsOf, Cond.instanceMethod yX5_slipsOf, Cond.selects RX5 yX5_slipsOf yX5_slipsOf, Cond.code yX5_slipsOf cX5_slipsOf 3 (some .int), Cond.fieldLink RX5 13 "LoserDrawsModel" "ticketsOf" "[I", Cond.fieldLink RX5 7 "LoserDrawsModel" "kindOf" "[I", Cond.methodLink RX5 160 yX5_drawnOf, Cond.instanceMethod yX5_drawnOf, Cond.selects RX5 yX5_drawnOf yX5_drawnOf, Cond.code yX5_drawnOf cX5_drawnOf 2 (some .int), Cond.fieldLink RX5 111 "LoserDrawsModel" "drawnNow" "I"]
def wsX5_drawsOf_r2 : List Cond := [Cond.methodLink RX5 163 yX5_waysOf, Cond.static yX5_waysOf, Cond.code yX5_waysOf cX5_waysOf 5 (some .long), Cond.methodLink RX5 139 yX5_bits, Cond.static yX5_bits, Cond.code yX5_bits cX5_bits 3 (some .int)]
def wsX5_drawsOf : List Cond := .code yX5_drawsOf cX5_drawsOf 9 (some .long) :: ((wsX5_drawsOf_r1 ++ wsX5_drawsOf_r2) ++ wsX50)
def wsX5_drawsWithout_r1 : List Cond := [Cond.methodLink RX5 145 yX5_everybody, Cond.instanceMethod yX5_everybody, Cond.selects RX5 yX5_everybody yX5_everybody, Cond.initialized RX5, Cond.code yX5_everybody cX5_everybody 1 (some .int), Cond.fieldLink RX5 53 "LoserDrawsModel" "citizens" "I", Cond.methodLink RX5 132 yX5_slipsOfAll, Cond.instanceMethod yX5_slipsOfAll, Cond.selects RX5 yX5_slipsOfAll yX5_slipsOfAll, Cond.code yX5_slipsOfAll cX5_slipsOfAll 4 (some .int), Cond.methodLink RX5 123 yX5_isIn, Cond.static yX5_isIn, Cond.code yX5_isIn cX5_isIn 2 (some .boolean), Cond.methodLink RX5 126 yX5_slipsOf, Cond.instanceMethod yX5_slipsOf, Cond.selects RX5 yX5_slipsOf yX5_slipsOf, Cond.code yX5_slipsOf cX5_slipsOf 3 (some .int), Cond.fieldLink RX5 13 "LoserDrawsModel" "ticketsOf" "[I", Cond.fieldLink RX5 7 "LoserDrawsModel" "kindOf" "[I", Cond.methodLink RX5 160 yX5_drawnOf, Cond.instanceMethod yX5_drawnOf, Cond.selects RX5 yX5_drawnOf yX5_drawnOf, Cond.code yX5_drawnOf cX5_drawnOf 2 (some .int), Cond.fieldLink RX5 111 "LoserDrawsModel" "drawnNow" "I"]
def wsX5_drawsWithout_r2 : List Cond := [Cond.methodLink RX5 163 yX5_waysOf, Cond.static yX5_waysOf, Cond.code yX5_waysOf cX5_waysOf 5 (some .long)]
def wsX5_drawsWithout : List Cond := .code yX5_drawsWithout cX5_drawsWithout 3 (some .long) :: ((wsX5_drawsWithout_r1 ++ wsX5_drawsWithout_r2) ++ wsX50)
def wsX5_rules_r1 : List Cond := [Cond.methodLink RX5 129 yX5_noCitizen, Cond.instanceMethod yX5_noCitizen, Cond.selects RX5 yX5_noCitizen yX5_noCitizen, Cond.initialized RX5, Cond.code yX5_noCitizen cX5_noCitizen 2 (some .boolean), Cond.fieldLink RX5 53 "LoserDrawsModel" "citizens" "I", Cond.methodLink RX5 56 yX5_in, Cond.static yX5_in, Cond.code yX5_in cX5_in 6 (some .boolean), Cond.methodLink RX5 49 yX5_lost, Cond.static yX5_lost, Cond.code yX5_lost cX5_lost 0 (some .long), Cond.constantLong RX5 43 (-9223372036854775808), Cond.methodLink RX5 167 yX5_drawsWithout, Cond.instanceMethod yX5_drawsWithout, Cond.selects RX5 yX5_drawsWithout yX5_drawsWithout, Cond.code yX5_drawsWithout cX5_drawsWithout 3 (some .long), Cond.methodLink RX5 145 yX5_everybody, Cond.instanceMethod yX5_everybody, Cond.selects RX5 yX5_everybody yX5_everybody, Cond.code yX5_everybody cX5_everybody 1 (some .int), Cond.methodLink RX5 132 yX5_slipsOfAll, Cond.instanceMethod yX5_slipsOfAll, Cond.selects RX5 yX5_slipsOfAll yX5_slipsOfAll]
def wsX5_rules_r2 : List Cond := [Cond.code yX5_slipsOfAll cX5_slipsOfAll 4 (some .int), Cond.methodLink RX5 123 yX5_isIn, Cond.static yX5_isIn, Cond.code yX5_isIn cX5_isIn 2 (some .boolean), Cond.methodLink RX5 126 yX5_slipsOf, Cond.instanceMethod yX5_slipsOf, Cond.selects RX5 yX5_slipsOf yX5_slipsOf, Cond.code yX5_slipsOf cX5_slipsOf 3 (some .int), Cond.fieldLink RX5 13 "LoserDrawsModel" "ticketsOf" "[I", Cond.fieldLink RX5 7 "LoserDrawsModel" "kindOf" "[I", Cond.methodLink RX5 160 yX5_drawnOf, Cond.instanceMethod yX5_drawnOf, Cond.selects RX5 yX5_drawnOf yX5_drawnOf, Cond.code yX5_drawnOf cX5_drawnOf 2 (some .int), Cond.fieldLink RX5 111 "LoserDrawsModel" "drawnNow" "I", Cond.methodLink RX5 163 yX5_waysOf, Cond.static yX5_waysOf, Cond.code yX5_waysOf cX5_waysOf 5 (some .long), Cond.methodLink RX5 171 yX5_allDraws, Cond.instanceMethod yX5_allDraws, Cond.selects RX5 yX5_allDraws yX5_allDraws, Cond.code yX5_allDraws cX5_allDraws 2 (some .long), Cond.methodLink RX5 174 yX5_share, Cond.static yX5_share]
def wsX5_rules_r3 : List Cond := [Cond.code yX5_share cX5_share 11 (some .long)]
def wsX5_rules : List Cond := .code yX5_rules cX5_rules 3 (some .long) :: ((wsX5_rules_r1 ++ (wsX5_rules_r2 ++ wsX5_rules_r3)) ++ wsX50)
def wsX5_just_r1 : List Cond := [Cond.fieldLink RX5 53 "LoserDrawsModel" "citizens" "I", Cond.methodLink RX5 145 yX5_everybody, Cond.instanceMethod yX5_everybody, Cond.selects RX5 yX5_everybody yX5_everybody, Cond.initialized RX5, Cond.code yX5_everybody cX5_everybody 1 (some .int), Cond.methodLink RX5 56 yX5_in, Cond.static yX5_in, Cond.code yX5_in cX5_in 6 (some .boolean), Cond.methodLink RX5 49 yX5_lost, Cond.static yX5_lost, Cond.code yX5_lost cX5_lost 0 (some .long), Cond.constantLong RX5 43 (-9223372036854775808), Cond.methodLink RX5 178 yX5_drawsOf, Cond.instanceMethod yX5_drawsOf, Cond.selects RX5 yX5_drawsOf yX5_drawsOf, Cond.code yX5_drawsOf cX5_drawsOf 9 (some .long), Cond.methodLink RX5 132 yX5_slipsOfAll, Cond.instanceMethod yX5_slipsOfAll, Cond.selects RX5 yX5_slipsOfAll yX5_slipsOfAll, Cond.code yX5_slipsOfAll cX5_slipsOfAll 4 (some .int), Cond.methodLink RX5 123 yX5_isIn, Cond.static yX5_isIn, Cond.code yX5_isIn cX5_isIn 2 (some .boolean)]
def wsX5_just_r2 : List Cond := [Cond.methodLink RX5 126 yX5_slipsOf, Cond.instanceMethod yX5_slipsOf, Cond.selects RX5 yX5_slipsOf yX5_slipsOf, Cond.code yX5_slipsOf cX5_slipsOf 3 (some .int), Cond.fieldLink RX5 13 "LoserDrawsModel" "ticketsOf" "[I", Cond.fieldLink RX5 7 "LoserDrawsModel" "kindOf" "[I", Cond.methodLink RX5 160 yX5_drawnOf, Cond.instanceMethod yX5_drawnOf, Cond.selects RX5 yX5_drawnOf yX5_drawnOf, Cond.code yX5_drawnOf cX5_drawnOf 2 (some .int), Cond.fieldLink RX5 111 "LoserDrawsModel" "drawnNow" "I", Cond.methodLink RX5 163 yX5_waysOf, Cond.static yX5_waysOf, Cond.code yX5_waysOf cX5_waysOf 5 (some .long), Cond.methodLink RX5 139 yX5_bits, Cond.static yX5_bits, Cond.code yX5_bits cX5_bits 3 (some .int), Cond.methodLink RX5 171 yX5_allDraws, Cond.instanceMethod yX5_allDraws, Cond.selects RX5 yX5_allDraws yX5_allDraws, Cond.code yX5_allDraws cX5_allDraws 2 (some .long), Cond.methodLink RX5 174 yX5_share, Cond.static yX5_share, Cond.code yX5_share cX5_share 11 (some .long)]
def wsX5_just : List Cond := .code yX5_just cX5_just 3 (some .long) :: ((wsX5_just_r1 ++ wsX5_just_r2) ++ wsX50)
def wsX5_mean_r1 : List Cond := [Cond.fieldLink RX5 53 "LoserDrawsModel" "citizens" "I", Cond.methodLink RX5 56 yX5_in, Cond.static yX5_in, Cond.initialized RX5, Cond.code yX5_in cX5_in 6 (some .boolean), Cond.methodLink RX5 49 yX5_lost, Cond.static yX5_lost, Cond.code yX5_lost cX5_lost 0 (some .long), Cond.constantLong RX5 43 (-9223372036854775808), Cond.methodLink RX5 167 yX5_drawsWithout, Cond.instanceMethod yX5_drawsWithout, Cond.selects RX5 yX5_drawsWithout yX5_drawsWithout, Cond.code yX5_drawsWithout cX5_drawsWithout 3 (some .long), Cond.methodLink RX5 145 yX5_everybody, Cond.instanceMethod yX5_everybody, Cond.selects RX5 yX5_everybody yX5_everybody, Cond.code yX5_everybody cX5_everybody 1 (some .int), Cond.methodLink RX5 132 yX5_slipsOfAll, Cond.instanceMethod yX5_slipsOfAll, Cond.selects RX5 yX5_slipsOfAll yX5_slipsOfAll, Cond.code yX5_slipsOfAll cX5_slipsOfAll 4 (some .int), Cond.methodLink RX5 123 yX5_isIn, Cond.static yX5_isIn, Cond.code yX5_isIn cX5_isIn 2 (some .boolean)]
def wsX5_mean_r2 : List Cond := [Cond.methodLink RX5 126 yX5_slipsOf, Cond.instanceMethod yX5_slipsOf, Cond.selects RX5 yX5_slipsOf yX5_slipsOf, Cond.code yX5_slipsOf cX5_slipsOf 3 (some .int), Cond.fieldLink RX5 13 "LoserDrawsModel" "ticketsOf" "[I", Cond.fieldLink RX5 7 "LoserDrawsModel" "kindOf" "[I", Cond.methodLink RX5 160 yX5_drawnOf, Cond.instanceMethod yX5_drawnOf, Cond.selects RX5 yX5_drawnOf yX5_drawnOf, Cond.code yX5_drawnOf cX5_drawnOf 2 (some .int), Cond.fieldLink RX5 111 "LoserDrawsModel" "drawnNow" "I", Cond.methodLink RX5 163 yX5_waysOf, Cond.static yX5_waysOf, Cond.code yX5_waysOf cX5_waysOf 5 (some .long), Cond.methodLink RX5 171 yX5_allDraws, Cond.instanceMethod yX5_allDraws, Cond.selects RX5 yX5_allDraws yX5_allDraws, Cond.code yX5_allDraws cX5_allDraws 2 (some .long), Cond.methodLink RX5 174 yX5_share, Cond.static yX5_share, Cond.code yX5_share cX5_share 11 (some .long)]
def wsX5_mean : List Cond := .code yX5_mean cX5_mean 5 (some .long) :: ((wsX5_mean_r1 ++ wsX5_mean_r2) ++ wsX50)
def wsX5_passingDraws_r1 : List Cond := [Cond.methodLink RX5 145 yX5_everybody, Cond.instanceMethod yX5_everybody, Cond.selects RX5 yX5_everybody yX5_everybody, Cond.initialized RX5, Cond.code yX5_everybody cX5_everybody 1 (some .int), Cond.fieldLink RX5 53 "LoserDrawsModel" "citizens" "I", Cond.methodLink RX5 157 yX5_doesPass, Cond.instanceMethod yX5_doesPass, Cond.selects RX5 yX5_doesPass yX5_doesPass, Cond.code yX5_doesPass cX5_doesPass 2 (some .boolean), Cond.fieldLink RX5 117 "LoserDrawsModel" "wishing" "I", Cond.methodLink RX5 139 yX5_bits, Cond.static yX5_bits, Cond.code yX5_bits cX5_bits 3 (some .int), Cond.methodLink RX5 178 yX5_drawsOf, Cond.instanceMethod yX5_drawsOf, Cond.selects RX5 yX5_drawsOf yX5_drawsOf, Cond.code yX5_drawsOf cX5_drawsOf 9 (some .long), Cond.methodLink RX5 132 yX5_slipsOfAll, Cond.instanceMethod yX5_slipsOfAll, Cond.selects RX5 yX5_slipsOfAll yX5_slipsOfAll, Cond.code yX5_slipsOfAll cX5_slipsOfAll 4 (some .int), Cond.methodLink RX5 123 yX5_isIn, Cond.static yX5_isIn]
def wsX5_passingDraws_r2 : List Cond := [Cond.code yX5_isIn cX5_isIn 2 (some .boolean), Cond.methodLink RX5 126 yX5_slipsOf, Cond.instanceMethod yX5_slipsOf, Cond.selects RX5 yX5_slipsOf yX5_slipsOf, Cond.code yX5_slipsOf cX5_slipsOf 3 (some .int), Cond.fieldLink RX5 13 "LoserDrawsModel" "ticketsOf" "[I", Cond.fieldLink RX5 7 "LoserDrawsModel" "kindOf" "[I", Cond.methodLink RX5 160 yX5_drawnOf, Cond.instanceMethod yX5_drawnOf, Cond.selects RX5 yX5_drawnOf yX5_drawnOf, Cond.code yX5_drawnOf cX5_drawnOf 2 (some .int), Cond.fieldLink RX5 111 "LoserDrawsModel" "drawnNow" "I", Cond.methodLink RX5 163 yX5_waysOf, Cond.static yX5_waysOf, Cond.code yX5_waysOf cX5_waysOf 5 (some .long)]
def wsX5_passingDraws : List Cond := .code yX5_passingDraws cX5_passingDraws 4 (some .long) :: ((wsX5_passingDraws_r1 ++ wsX5_passingDraws_r2) ++ wsX50)
def wsX5_passes_r1 : List Cond := [Cond.fieldLink RX5 53 "LoserDrawsModel" "citizens" "I", Cond.methodLink RX5 56 yX5_in, Cond.static yX5_in, Cond.initialized RX5, Cond.code yX5_in cX5_in 6 (some .boolean), Cond.methodLink RX5 49 yX5_lost, Cond.static yX5_lost, Cond.code yX5_lost cX5_lost 0 (some .long), Cond.constantLong RX5 43 (-9223372036854775808), Cond.methodLink RX5 181 yX5_passingDraws, Cond.instanceMethod yX5_passingDraws, Cond.selects RX5 yX5_passingDraws yX5_passingDraws, Cond.code yX5_passingDraws cX5_passingDraws 4 (some .long), Cond.methodLink RX5 145 yX5_everybody, Cond.instanceMethod yX5_everybody, Cond.selects RX5 yX5_everybody yX5_everybody, Cond.code yX5_everybody cX5_everybody 1 (some .int), Cond.methodLink RX5 157 yX5_doesPass, Cond.instanceMethod yX5_doesPass, Cond.selects RX5 yX5_doesPass yX5_doesPass, Cond.code yX5_doesPass cX5_doesPass 2 (some .boolean), Cond.fieldLink RX5 117 "LoserDrawsModel" "wishing" "I", Cond.methodLink RX5 139 yX5_bits, Cond.static yX5_bits]
def wsX5_passes_r2 : List Cond := [Cond.code yX5_bits cX5_bits 3 (some .int), Cond.methodLink RX5 178 yX5_drawsOf, Cond.instanceMethod yX5_drawsOf, Cond.selects RX5 yX5_drawsOf yX5_drawsOf, Cond.code yX5_drawsOf cX5_drawsOf 9 (some .long), Cond.methodLink RX5 132 yX5_slipsOfAll, Cond.instanceMethod yX5_slipsOfAll, Cond.selects RX5 yX5_slipsOfAll yX5_slipsOfAll, Cond.code yX5_slipsOfAll cX5_slipsOfAll 4 (some .int), Cond.methodLink RX5 123 yX5_isIn, Cond.static yX5_isIn, Cond.code yX5_isIn cX5_isIn 2 (some .boolean), Cond.methodLink RX5 126 yX5_slipsOf, Cond.instanceMethod yX5_slipsOf, Cond.selects RX5 yX5_slipsOf yX5_slipsOf, Cond.code yX5_slipsOf cX5_slipsOf 3 (some .int), Cond.fieldLink RX5 13 "LoserDrawsModel" "ticketsOf" "[I", Cond.fieldLink RX5 7 "LoserDrawsModel" "kindOf" "[I", Cond.methodLink RX5 160 yX5_drawnOf, Cond.instanceMethod yX5_drawnOf, Cond.selects RX5 yX5_drawnOf yX5_drawnOf, Cond.code yX5_drawnOf cX5_drawnOf 2 (some .int), Cond.fieldLink RX5 111 "LoserDrawsModel" "drawnNow" "I", Cond.methodLink RX5 163 yX5_waysOf]
def wsX5_passes_r3 : List Cond := [Cond.static yX5_waysOf, Cond.code yX5_waysOf cX5_waysOf 5 (some .long), Cond.methodLink RX5 171 yX5_allDraws, Cond.instanceMethod yX5_allDraws, Cond.selects RX5 yX5_allDraws yX5_allDraws, Cond.code yX5_allDraws cX5_allDraws 2 (some .long), Cond.methodLink RX5 174 yX5_share, Cond.static yX5_share, Cond.code yX5_share cX5_share 11 (some .long)]
def wsX5_passes : List Cond := .code yX5_passes cX5_passes 2 (some .long) :: ((wsX5_passes_r1 ++ (wsX5_passes_r2 ++ wsX5_passes_r3)) ++ wsX50)
def wsX5_buy_r1 : List Cond := [Cond.constantLong RX5 184 (999), Cond.fieldLink RX5 114 "LoserDrawsModel" "priceNow" "I", Cond.fieldLink RX5 16 "LoserDrawsModel" "geeseOf" "[I", Cond.methodLink RX5 129 yX5_noCitizen, Cond.instanceMethod yX5_noCitizen, Cond.selects RX5 yX5_noCitizen yX5_noCitizen, Cond.initialized RX5, Cond.code yX5_noCitizen cX5_noCitizen 2 (some .boolean), Cond.fieldLink RX5 53 "LoserDrawsModel" "citizens" "I", Cond.methodLink RX5 56 yX5_in, Cond.static yX5_in, Cond.code yX5_in cX5_in 6 (some .boolean), Cond.methodLink RX5 145 yX5_everybody, Cond.instanceMethod yX5_everybody, Cond.selects RX5 yX5_everybody yX5_everybody, Cond.code yX5_everybody cX5_everybody 1 (some .int), Cond.methodLink RX5 132 yX5_slipsOfAll, Cond.instanceMethod yX5_slipsOfAll, Cond.selects RX5 yX5_slipsOfAll yX5_slipsOfAll, Cond.code yX5_slipsOfAll cX5_slipsOfAll 4 (some .int), Cond.methodLink RX5 123 yX5_isIn, Cond.static yX5_isIn, Cond.code yX5_isIn cX5_isIn 2 (some .boolean), Cond.methodLink RX5 126 yX5_slipsOf]
def wsX5_buy_r2 : List Cond := [Cond.instanceMethod yX5_slipsOf, Cond.selects RX5 yX5_slipsOf yX5_slipsOf, Cond.code yX5_slipsOf cX5_slipsOf 3 (some .int), Cond.fieldLink RX5 13 "LoserDrawsModel" "ticketsOf" "[I", Cond.fieldLink RX5 7 "LoserDrawsModel" "kindOf" "[I", Cond.methodLink RX5 160 yX5_drawnOf, Cond.instanceMethod yX5_drawnOf, Cond.selects RX5 yX5_drawnOf yX5_drawnOf, Cond.code yX5_drawnOf cX5_drawnOf 2 (some .int), Cond.fieldLink RX5 111 "LoserDrawsModel" "drawnNow" "I", Cond.methodLink RX5 163 yX5_waysOf, Cond.static yX5_waysOf, Cond.code yX5_waysOf cX5_waysOf 5 (some .long)]
def wsX5_buy : List Cond := .code yX5_buy cX5_buy 10 (some .int) :: ((wsX5_buy_r1 ++ wsX5_buy_r2) ++ wsX50)
def wsX5_lend_r1 : List Cond := [Cond.fieldLink RX5 13 "LoserDrawsModel" "ticketsOf" "[I", Cond.fieldLink RX5 53 "LoserDrawsModel" "citizens" "I", Cond.methodLink RX5 129 yX5_noCitizen, Cond.instanceMethod yX5_noCitizen, Cond.selects RX5 yX5_noCitizen yX5_noCitizen, Cond.initialized RX5, Cond.code yX5_noCitizen cX5_noCitizen 2 (some .boolean), Cond.methodLink RX5 56 yX5_in, Cond.static yX5_in, Cond.code yX5_in cX5_in 6 (some .boolean), Cond.methodLink RX5 181 yX5_passingDraws, Cond.instanceMethod yX5_passingDraws, Cond.selects RX5 yX5_passingDraws yX5_passingDraws, Cond.code yX5_passingDraws cX5_passingDraws 4 (some .long), Cond.methodLink RX5 145 yX5_everybody, Cond.instanceMethod yX5_everybody, Cond.selects RX5 yX5_everybody yX5_everybody, Cond.code yX5_everybody cX5_everybody 1 (some .int), Cond.methodLink RX5 157 yX5_doesPass, Cond.instanceMethod yX5_doesPass, Cond.selects RX5 yX5_doesPass yX5_doesPass, Cond.code yX5_doesPass cX5_doesPass 2 (some .boolean), Cond.fieldLink RX5 117 "LoserDrawsModel" "wishing" "I", Cond.methodLink RX5 139 yX5_bits]
def wsX5_lend_r2 : List Cond := [Cond.static yX5_bits, Cond.code yX5_bits cX5_bits 3 (some .int), Cond.methodLink RX5 178 yX5_drawsOf, Cond.instanceMethod yX5_drawsOf, Cond.selects RX5 yX5_drawsOf yX5_drawsOf, Cond.code yX5_drawsOf cX5_drawsOf 9 (some .long), Cond.methodLink RX5 132 yX5_slipsOfAll, Cond.instanceMethod yX5_slipsOfAll, Cond.selects RX5 yX5_slipsOfAll yX5_slipsOfAll, Cond.code yX5_slipsOfAll cX5_slipsOfAll 4 (some .int), Cond.methodLink RX5 123 yX5_isIn, Cond.static yX5_isIn, Cond.code yX5_isIn cX5_isIn 2 (some .boolean), Cond.methodLink RX5 126 yX5_slipsOf, Cond.instanceMethod yX5_slipsOf, Cond.selects RX5 yX5_slipsOf yX5_slipsOf, Cond.code yX5_slipsOf cX5_slipsOf 3 (some .int), Cond.fieldLink RX5 7 "LoserDrawsModel" "kindOf" "[I", Cond.methodLink RX5 160 yX5_drawnOf, Cond.instanceMethod yX5_drawnOf, Cond.selects RX5 yX5_drawnOf yX5_drawnOf, Cond.code yX5_drawnOf cX5_drawnOf 2 (some .int), Cond.fieldLink RX5 111 "LoserDrawsModel" "drawnNow" "I", Cond.methodLink RX5 163 yX5_waysOf]
def wsX5_lend_r3 : List Cond := [Cond.static yX5_waysOf, Cond.code yX5_waysOf cX5_waysOf 5 (some .long), Cond.methodLink RX5 171 yX5_allDraws, Cond.instanceMethod yX5_allDraws, Cond.selects RX5 yX5_allDraws yX5_allDraws, Cond.code yX5_allDraws cX5_allDraws 2 (some .long), Cond.methodLink RX5 186 yX5_isAbove, Cond.static yX5_isAbove, Cond.code yX5_isAbove cX5_isAbove 21 (some .boolean)]
def wsX5_lend : List Cond := .code yX5_lend cX5_lend 12 (some .int) :: ((wsX5_lend_r1 ++ (wsX5_lend_r2 ++ wsX5_lend_r3)) ++ wsX50)
def wsX5_isLikely_r1 : List Cond := [Cond.constantLong RX5 102 (2), Cond.methodLink RX5 181 yX5_passingDraws, Cond.instanceMethod yX5_passingDraws, Cond.selects RX5 yX5_passingDraws yX5_passingDraws, Cond.initialized RX5, Cond.code yX5_passingDraws cX5_passingDraws 4 (some .long), Cond.methodLink RX5 145 yX5_everybody, Cond.instanceMethod yX5_everybody, Cond.selects RX5 yX5_everybody yX5_everybody, Cond.code yX5_everybody cX5_everybody 1 (some .int), Cond.fieldLink RX5 53 "LoserDrawsModel" "citizens" "I", Cond.methodLink RX5 157 yX5_doesPass, Cond.instanceMethod yX5_doesPass, Cond.selects RX5 yX5_doesPass yX5_doesPass, Cond.code yX5_doesPass cX5_doesPass 2 (some .boolean), Cond.fieldLink RX5 117 "LoserDrawsModel" "wishing" "I", Cond.methodLink RX5 139 yX5_bits, Cond.static yX5_bits, Cond.code yX5_bits cX5_bits 3 (some .int), Cond.methodLink RX5 178 yX5_drawsOf, Cond.instanceMethod yX5_drawsOf, Cond.selects RX5 yX5_drawsOf yX5_drawsOf, Cond.code yX5_drawsOf cX5_drawsOf 9 (some .long), Cond.methodLink RX5 132 yX5_slipsOfAll]
def wsX5_isLikely_r2 : List Cond := [Cond.instanceMethod yX5_slipsOfAll, Cond.selects RX5 yX5_slipsOfAll yX5_slipsOfAll, Cond.code yX5_slipsOfAll cX5_slipsOfAll 4 (some .int), Cond.methodLink RX5 123 yX5_isIn, Cond.static yX5_isIn, Cond.code yX5_isIn cX5_isIn 2 (some .boolean), Cond.methodLink RX5 126 yX5_slipsOf, Cond.instanceMethod yX5_slipsOf, Cond.selects RX5 yX5_slipsOf yX5_slipsOf, Cond.code yX5_slipsOf cX5_slipsOf 3 (some .int), Cond.fieldLink RX5 13 "LoserDrawsModel" "ticketsOf" "[I", Cond.fieldLink RX5 7 "LoserDrawsModel" "kindOf" "[I", Cond.methodLink RX5 160 yX5_drawnOf, Cond.instanceMethod yX5_drawnOf, Cond.selects RX5 yX5_drawnOf yX5_drawnOf, Cond.code yX5_drawnOf cX5_drawnOf 2 (some .int), Cond.fieldLink RX5 111 "LoserDrawsModel" "drawnNow" "I", Cond.methodLink RX5 163 yX5_waysOf, Cond.static yX5_waysOf, Cond.code yX5_waysOf cX5_waysOf 5 (some .long), Cond.methodLink RX5 171 yX5_allDraws, Cond.instanceMethod yX5_allDraws, Cond.selects RX5 yX5_allDraws yX5_allDraws, Cond.code yX5_allDraws cX5_allDraws 2 (some .long)]
def wsX5_isLikely : List Cond := .code yX5_isLikely cX5_isLikely 1 (some .boolean) :: ((wsX5_isLikely_r1 ++ wsX5_isLikely_r2) ++ wsX50)
def wsX5_least_r1 : List Cond := [Cond.fieldLink RX5 53 "LoserDrawsModel" "citizens" "I", Cond.fieldLink RX5 117 "LoserDrawsModel" "wishing" "I", Cond.fieldLink RX5 16 "LoserDrawsModel" "geeseOf" "[I", Cond.fieldLink RX5 114 "LoserDrawsModel" "priceNow" "I", Cond.fieldLink RX5 13 "LoserDrawsModel" "ticketsOf" "[I", Cond.methodLink RX5 56 yX5_in, Cond.static yX5_in, Cond.initialized RX5, Cond.code yX5_in cX5_in 6 (some .boolean), Cond.methodLink RX5 190 yX5_isLikely, Cond.instanceMethod yX5_isLikely, Cond.selects RX5 yX5_isLikely yX5_isLikely, Cond.code yX5_isLikely cX5_isLikely 1 (some .boolean), Cond.constantLong RX5 102 (2), Cond.methodLink RX5 181 yX5_passingDraws, Cond.instanceMethod yX5_passingDraws, Cond.selects RX5 yX5_passingDraws yX5_passingDraws, Cond.code yX5_passingDraws cX5_passingDraws 4 (some .long), Cond.methodLink RX5 145 yX5_everybody, Cond.instanceMethod yX5_everybody, Cond.selects RX5 yX5_everybody yX5_everybody, Cond.code yX5_everybody cX5_everybody 1 (some .int), Cond.methodLink RX5 157 yX5_doesPass, Cond.instanceMethod yX5_doesPass]
def wsX5_least_r2 : List Cond := [Cond.selects RX5 yX5_doesPass yX5_doesPass, Cond.code yX5_doesPass cX5_doesPass 2 (some .boolean), Cond.methodLink RX5 139 yX5_bits, Cond.static yX5_bits, Cond.code yX5_bits cX5_bits 3 (some .int), Cond.methodLink RX5 178 yX5_drawsOf, Cond.instanceMethod yX5_drawsOf, Cond.selects RX5 yX5_drawsOf yX5_drawsOf, Cond.code yX5_drawsOf cX5_drawsOf 9 (some .long), Cond.methodLink RX5 132 yX5_slipsOfAll, Cond.instanceMethod yX5_slipsOfAll, Cond.selects RX5 yX5_slipsOfAll yX5_slipsOfAll, Cond.code yX5_slipsOfAll cX5_slipsOfAll 4 (some .int), Cond.methodLink RX5 123 yX5_isIn, Cond.static yX5_isIn, Cond.code yX5_isIn cX5_isIn 2 (some .boolean), Cond.methodLink RX5 126 yX5_slipsOf, Cond.instanceMethod yX5_slipsOf, Cond.selects RX5 yX5_slipsOf yX5_slipsOf, Cond.code yX5_slipsOf cX5_slipsOf 3 (some .int), Cond.fieldLink RX5 7 "LoserDrawsModel" "kindOf" "[I", Cond.methodLink RX5 160 yX5_drawnOf, Cond.instanceMethod yX5_drawnOf, Cond.selects RX5 yX5_drawnOf yX5_drawnOf]
def wsX5_least_r3 : List Cond := [Cond.code yX5_drawnOf cX5_drawnOf 2 (some .int), Cond.fieldLink RX5 111 "LoserDrawsModel" "drawnNow" "I", Cond.methodLink RX5 163 yX5_waysOf, Cond.static yX5_waysOf, Cond.code yX5_waysOf cX5_waysOf 5 (some .long), Cond.methodLink RX5 171 yX5_allDraws, Cond.instanceMethod yX5_allDraws, Cond.selects RX5 yX5_allDraws yX5_allDraws, Cond.code yX5_allDraws cX5_allDraws 2 (some .long)]
def wsX5_least : List Cond := .code yX5_least cX5_least 7 (some .int) :: ((wsX5_least_r1 ++ (wsX5_least_r2 ++ wsX5_least_r3)) ++ wsX50)
def wsX5_reading : List Cond := .code yX5_reading cX5_reading 2 (some .int) :: ([.fieldLink RX5 53 "LoserDrawsModel" "citizens" "I", .fieldLink RX5 120 "LoserDrawsModel" "readings" "I", .fieldLink RX5 28 "LoserDrawsModel" "readingSet" "[I", .methodLink RX5 145 yX5_everybody, .instanceMethod yX5_everybody, .selects RX5 yX5_everybody yX5_everybody, .initialized RX5, .code yX5_everybody cX5_everybody 1 (some .int), .methodLink RX5 56 yX5_in, .static yX5_in, .code yX5_in cX5_in 6 (some .boolean)] ++ wsX50)
def wsX5_back : List Cond := .code yX5_back cX5_back 2 (some .int) :: ([.fieldLink RX5 120 "LoserDrawsModel" "readings" "I", .methodLink RX5 56 yX5_in, .static yX5_in, .initialized RX5, .code yX5_in cX5_in 6 (some .boolean)] ++ wsX50)
def wsX5_canBe_r1 : List Cond := [Cond.fieldLink RX5 120 "LoserDrawsModel" "readings" "I", Cond.fieldLink RX5 28 "LoserDrawsModel" "readingSet" "[I", Cond.methodLink RX5 178 yX5_drawsOf, Cond.instanceMethod yX5_drawsOf, Cond.selects RX5 yX5_drawsOf yX5_drawsOf, Cond.initialized RX5, Cond.code yX5_drawsOf cX5_drawsOf 9 (some .long), Cond.methodLink RX5 145 yX5_everybody, Cond.instanceMethod yX5_everybody, Cond.selects RX5 yX5_everybody yX5_everybody, Cond.code yX5_everybody cX5_everybody 1 (some .int), Cond.fieldLink RX5 53 "LoserDrawsModel" "citizens" "I", Cond.methodLink RX5 132 yX5_slipsOfAll, Cond.instanceMethod yX5_slipsOfAll, Cond.selects RX5 yX5_slipsOfAll yX5_slipsOfAll, Cond.code yX5_slipsOfAll cX5_slipsOfAll 4 (some .int), Cond.methodLink RX5 123 yX5_isIn, Cond.static yX5_isIn, Cond.code yX5_isIn cX5_isIn 2 (some .boolean), Cond.methodLink RX5 126 yX5_slipsOf, Cond.instanceMethod yX5_slipsOf, Cond.selects RX5 yX5_slipsOf yX5_slipsOf, Cond.code yX5_slipsOf cX5_slipsOf 3 (some .int), Cond.fieldLink RX5 13 "LoserDrawsModel" "ticketsOf" "[I"]
def wsX5_canBe_r2 : List Cond := [Cond.fieldLink RX5 7 "LoserDrawsModel" "kindOf" "[I", Cond.methodLink RX5 160 yX5_drawnOf, Cond.instanceMethod yX5_drawnOf, Cond.selects RX5 yX5_drawnOf yX5_drawnOf, Cond.code yX5_drawnOf cX5_drawnOf 2 (some .int), Cond.fieldLink RX5 111 "LoserDrawsModel" "drawnNow" "I", Cond.methodLink RX5 163 yX5_waysOf, Cond.static yX5_waysOf, Cond.code yX5_waysOf cX5_waysOf 5 (some .long), Cond.methodLink RX5 139 yX5_bits, Cond.static yX5_bits, Cond.code yX5_bits cX5_bits 3 (some .int)]
def wsX5_canBe : List Cond := .code yX5_canBe cX5_canBe 3 (some .boolean) :: ((wsX5_canBe_r1 ++ wsX5_canBe_r2) ++ wsX50)
def wsX5_tickets_r1 : List Cond := [Cond.fieldLink RX5 13 "LoserDrawsModel" "ticketsOf" "[I", Cond.methodLink RX5 129 yX5_noCitizen, Cond.instanceMethod yX5_noCitizen, Cond.selects RX5 yX5_noCitizen yX5_noCitizen, Cond.initialized RX5, Cond.code yX5_noCitizen cX5_noCitizen 2 (some .boolean), Cond.fieldLink RX5 53 "LoserDrawsModel" "citizens" "I", Cond.methodLink RX5 56 yX5_in, Cond.static yX5_in, Cond.code yX5_in cX5_in 6 (some .boolean), Cond.methodLink RX5 194 yX5_canBe, Cond.instanceMethod yX5_canBe, Cond.selects RX5 yX5_canBe yX5_canBe, Cond.code yX5_canBe cX5_canBe 3 (some .boolean), Cond.fieldLink RX5 120 "LoserDrawsModel" "readings" "I", Cond.fieldLink RX5 28 "LoserDrawsModel" "readingSet" "[I", Cond.methodLink RX5 178 yX5_drawsOf, Cond.instanceMethod yX5_drawsOf, Cond.selects RX5 yX5_drawsOf yX5_drawsOf, Cond.code yX5_drawsOf cX5_drawsOf 9 (some .long), Cond.methodLink RX5 145 yX5_everybody, Cond.instanceMethod yX5_everybody, Cond.selects RX5 yX5_everybody yX5_everybody, Cond.code yX5_everybody cX5_everybody 1 (some .int)]
def wsX5_tickets_r2 : List Cond := [Cond.methodLink RX5 132 yX5_slipsOfAll, Cond.instanceMethod yX5_slipsOfAll, Cond.selects RX5 yX5_slipsOfAll yX5_slipsOfAll, Cond.code yX5_slipsOfAll cX5_slipsOfAll 4 (some .int), Cond.methodLink RX5 123 yX5_isIn, Cond.static yX5_isIn, Cond.code yX5_isIn cX5_isIn 2 (some .boolean), Cond.methodLink RX5 126 yX5_slipsOf, Cond.instanceMethod yX5_slipsOf, Cond.selects RX5 yX5_slipsOf yX5_slipsOf, Cond.code yX5_slipsOf cX5_slipsOf 3 (some .int), Cond.fieldLink RX5 7 "LoserDrawsModel" "kindOf" "[I", Cond.methodLink RX5 160 yX5_drawnOf, Cond.instanceMethod yX5_drawnOf, Cond.selects RX5 yX5_drawnOf yX5_drawnOf, Cond.code yX5_drawnOf cX5_drawnOf 2 (some .int), Cond.fieldLink RX5 111 "LoserDrawsModel" "drawnNow" "I", Cond.methodLink RX5 163 yX5_waysOf, Cond.static yX5_waysOf, Cond.code yX5_waysOf cX5_waysOf 5 (some .long), Cond.methodLink RX5 139 yX5_bits, Cond.static yX5_bits, Cond.code yX5_bits cX5_bits 3 (some .int)]
def wsX5_tickets : List Cond := .code yX5_tickets cX5_tickets 5 (some .int) :: ((wsX5_tickets_r1 ++ wsX5_tickets_r2) ++ wsX50)
def wsX5_kinds_r1 : List Cond := [Cond.fieldLink RX5 7 "LoserDrawsModel" "kindOf" "[I", Cond.methodLink RX5 129 yX5_noCitizen, Cond.instanceMethod yX5_noCitizen, Cond.selects RX5 yX5_noCitizen yX5_noCitizen, Cond.initialized RX5, Cond.code yX5_noCitizen cX5_noCitizen 2 (some .boolean), Cond.fieldLink RX5 53 "LoserDrawsModel" "citizens" "I", Cond.methodLink RX5 56 yX5_in, Cond.static yX5_in, Cond.code yX5_in cX5_in 6 (some .boolean), Cond.methodLink RX5 194 yX5_canBe, Cond.instanceMethod yX5_canBe, Cond.selects RX5 yX5_canBe yX5_canBe, Cond.code yX5_canBe cX5_canBe 3 (some .boolean), Cond.fieldLink RX5 120 "LoserDrawsModel" "readings" "I", Cond.fieldLink RX5 28 "LoserDrawsModel" "readingSet" "[I", Cond.methodLink RX5 178 yX5_drawsOf, Cond.instanceMethod yX5_drawsOf, Cond.selects RX5 yX5_drawsOf yX5_drawsOf, Cond.code yX5_drawsOf cX5_drawsOf 9 (some .long), Cond.methodLink RX5 145 yX5_everybody, Cond.instanceMethod yX5_everybody, Cond.selects RX5 yX5_everybody yX5_everybody, Cond.code yX5_everybody cX5_everybody 1 (some .int)]
def wsX5_kinds_r2 : List Cond := [Cond.methodLink RX5 132 yX5_slipsOfAll, Cond.instanceMethod yX5_slipsOfAll, Cond.selects RX5 yX5_slipsOfAll yX5_slipsOfAll, Cond.code yX5_slipsOfAll cX5_slipsOfAll 4 (some .int), Cond.methodLink RX5 123 yX5_isIn, Cond.static yX5_isIn, Cond.code yX5_isIn cX5_isIn 2 (some .boolean), Cond.methodLink RX5 126 yX5_slipsOf, Cond.instanceMethod yX5_slipsOf, Cond.selects RX5 yX5_slipsOf yX5_slipsOf, Cond.code yX5_slipsOf cX5_slipsOf 3 (some .int), Cond.fieldLink RX5 13 "LoserDrawsModel" "ticketsOf" "[I", Cond.methodLink RX5 160 yX5_drawnOf, Cond.instanceMethod yX5_drawnOf, Cond.selects RX5 yX5_drawnOf yX5_drawnOf, Cond.code yX5_drawnOf cX5_drawnOf 2 (some .int), Cond.fieldLink RX5 111 "LoserDrawsModel" "drawnNow" "I", Cond.methodLink RX5 163 yX5_waysOf, Cond.static yX5_waysOf, Cond.code yX5_waysOf cX5_waysOf 5 (some .long), Cond.methodLink RX5 139 yX5_bits, Cond.static yX5_bits, Cond.code yX5_bits cX5_bits 3 (some .int)]
def wsX5_kinds : List Cond := .code yX5_kinds cX5_kinds 5 (some .int) :: ((wsX5_kinds_r1 ++ wsX5_kinds_r2) ++ wsX50)
def wsX5_counts_r1 : List Cond := [Cond.fieldLink RX5 53 "LoserDrawsModel" "citizens" "I", Cond.fieldLink RX5 111 "LoserDrawsModel" "drawnNow" "I", Cond.methodLink RX5 194 yX5_canBe, Cond.instanceMethod yX5_canBe, Cond.selects RX5 yX5_canBe yX5_canBe, Cond.initialized RX5, Cond.code yX5_canBe cX5_canBe 3 (some .boolean), Cond.fieldLink RX5 120 "LoserDrawsModel" "readings" "I", Cond.fieldLink RX5 28 "LoserDrawsModel" "readingSet" "[I", Cond.methodLink RX5 178 yX5_drawsOf, Cond.instanceMethod yX5_drawsOf, Cond.selects RX5 yX5_drawsOf yX5_drawsOf, Cond.code yX5_drawsOf cX5_drawsOf 9 (some .long), Cond.methodLink RX5 145 yX5_everybody, Cond.instanceMethod yX5_everybody, Cond.selects RX5 yX5_everybody yX5_everybody, Cond.code yX5_everybody cX5_everybody 1 (some .int), Cond.methodLink RX5 132 yX5_slipsOfAll, Cond.instanceMethod yX5_slipsOfAll, Cond.selects RX5 yX5_slipsOfAll yX5_slipsOfAll, Cond.code yX5_slipsOfAll cX5_slipsOfAll 4 (some .int), Cond.methodLink RX5 123 yX5_isIn, Cond.static yX5_isIn, Cond.code yX5_isIn cX5_isIn 2 (some .boolean)]
def wsX5_counts_r2 : List Cond := [Cond.methodLink RX5 126 yX5_slipsOf, Cond.instanceMethod yX5_slipsOf, Cond.selects RX5 yX5_slipsOf yX5_slipsOf, Cond.code yX5_slipsOf cX5_slipsOf 3 (some .int), Cond.fieldLink RX5 13 "LoserDrawsModel" "ticketsOf" "[I", Cond.fieldLink RX5 7 "LoserDrawsModel" "kindOf" "[I", Cond.methodLink RX5 160 yX5_drawnOf, Cond.instanceMethod yX5_drawnOf, Cond.selects RX5 yX5_drawnOf yX5_drawnOf, Cond.code yX5_drawnOf cX5_drawnOf 2 (some .int), Cond.methodLink RX5 163 yX5_waysOf, Cond.static yX5_waysOf, Cond.code yX5_waysOf cX5_waysOf 5 (some .long), Cond.methodLink RX5 139 yX5_bits, Cond.static yX5_bits, Cond.code yX5_bits cX5_bits 3 (some .int)]
def wsX5_counts : List Cond := .code yX5_counts cX5_counts 4 (some .int) :: ((wsX5_counts_r1 ++ wsX5_counts_r2) ++ wsX50)
def wsX5_sheet : List Cond := .code yX5_sheet cX5_sheet 5 (some .int) :: ([.constantLong RX5 102 (2), .fieldLink RX5 31 "LoserDrawsModel" "sheetSize" "[I", .fieldLink RX5 34 "LoserDrawsModel" "sheetLane" "[I", .fieldLink RX5 37 "LoserDrawsModel" "sheet" "[I", .methodLink RX5 95 yX5_noSheet, .static yX5_noSheet, .initialized RX5, .code yX5_noSheet cX5_noSheet 1 (some .boolean), .constantLong RX5 197 (3), .methodLink RX5 56 yX5_in, .static yX5_in, .code yX5_in cX5_in 6 (some .boolean), .methodLink RX5 99 yX5_refused, .instanceMethod yX5_refused, .selects RX5 yX5_refused yX5_refused, .code yX5_refused cX5_refused 2 (some .int), .fieldLink RX5 45 "LoserDrawsModel" "fault" "I", .methodLink RX5 87 yX5_failed, .instanceMethod yX5_failed, .selects RX5 yX5_failed yX5_failed, .code yX5_failed cX5_failed 2 (some .int)] ++ wsX50)
def wsX5_lose : List Cond := .code yX5_lose cX5_lose 3 (some .int) :: ([.fieldLink RX5 31 "LoserDrawsModel" "sheetSize" "[I", .methodLink RX5 95 yX5_noSheet, .static yX5_noSheet, .initialized RX5, .code yX5_noSheet cX5_noSheet 1 (some .boolean), .constantLong RX5 197 (3), .methodLink RX5 56 yX5_in, .static yX5_in, .code yX5_in cX5_in 6 (some .boolean)] ++ wsX50)
def wsX5_noCell : List Cond := .code yX5_noCell cX5_noCell 3 (some .int) :: ([.fieldLink RX5 31 "LoserDrawsModel" "sheetSize" "[I", .methodLink RX5 56 yX5_in, .static yX5_in, .initialized RX5, .code yX5_in cX5_in 6 (some .boolean)] ++ wsX50)
def wsX5_put : List Cond := .code yX5_put cX5_put 4 (some .int) :: ([.fieldLink RX5 37 "LoserDrawsModel" "sheet" "[I", .fieldLink RX5 34 "LoserDrawsModel" "sheetLane" "[I", .methodLink RX5 95 yX5_noSheet, .static yX5_noSheet, .initialized RX5, .code yX5_noSheet cX5_noSheet 1 (some .boolean), .constantLong RX5 197 (3), .methodLink RX5 56 yX5_in, .static yX5_in, .code yX5_in cX5_in 6 (some .boolean), .methodLink RX5 99 yX5_refused, .instanceMethod yX5_refused, .selects RX5 yX5_refused yX5_refused, .code yX5_refused cX5_refused 2 (some .int), .fieldLink RX5 45 "LoserDrawsModel" "fault" "I", .methodLink RX5 199 yX5_noCell, .instanceMethod yX5_noCell, .selects RX5 yX5_noCell yX5_noCell, .code yX5_noCell cX5_noCell 3 (some .int), .fieldLink RX5 31 "LoserDrawsModel" "sheetSize" "[I", .methodLink RX5 87 yX5_failed, .instanceMethod yX5_failed, .selects RX5 yX5_failed yX5_failed, .code yX5_failed cX5_failed 2 (some .int)] ++ wsX50)
def wsX5_cell_r1 : List Cond := [Cond.fieldLink RX5 45 "LoserDrawsModel" "fault" "I", Cond.constantLong RX5 102 (2), Cond.fieldLink RX5 31 "LoserDrawsModel" "sheetSize" "[I", Cond.fieldLink RX5 34 "LoserDrawsModel" "sheetLane" "[I", Cond.fieldLink RX5 37 "LoserDrawsModel" "sheet" "[I", Cond.methodLink RX5 95 yX5_noSheet, Cond.static yX5_noSheet, Cond.initialized RX5, Cond.code yX5_noSheet cX5_noSheet 1 (some .boolean), Cond.constantLong RX5 197 (3), Cond.methodLink RX5 56 yX5_in, Cond.static yX5_in, Cond.code yX5_in cX5_in 6 (some .boolean), Cond.methodLink RX5 49 yX5_lost, Cond.static yX5_lost, Cond.code yX5_lost cX5_lost 0 (some .long), Cond.constantLong RX5 43 (-9223372036854775808), Cond.methodLink RX5 202 yX5_failedLong, Cond.instanceMethod yX5_failedLong, Cond.selects RX5 yX5_failedLong yX5_failedLong, Cond.code yX5_failedLong cX5_failedLong 2 (some .long), Cond.methodLink RX5 199 yX5_noCell, Cond.instanceMethod yX5_noCell, Cond.selects RX5 yX5_noCell yX5_noCell]
def wsX5_cell_r2 : List Cond := [Cond.code yX5_noCell cX5_noCell 3 (some .int)]
def wsX5_cell : List Cond := .code yX5_cell cX5_cell 4 (some .long) :: ((wsX5_cell_r1 ++ wsX5_cell_r2) ++ wsX50)
def wsX5_copy : List Cond := .code yX5_copy cX5_copy 7 (some .int) :: ([.fieldLink RX5 31 "LoserDrawsModel" "sheetSize" "[I", .fieldLink RX5 34 "LoserDrawsModel" "sheetLane" "[I", .fieldLink RX5 40 "LoserDrawsModel" "hands" "[I", .fieldLink RX5 37 "LoserDrawsModel" "sheet" "[I", .methodLink RX5 95 yX5_noSheet, .static yX5_noSheet, .initialized RX5, .code yX5_noSheet cX5_noSheet 1 (some .boolean), .constantLong RX5 197 (3), .methodLink RX5 56 yX5_in, .static yX5_in, .code yX5_in cX5_in 6 (some .boolean), .methodLink RX5 99 yX5_refused, .instanceMethod yX5_refused, .selects RX5 yX5_refused yX5_refused, .code yX5_refused cX5_refused 2 (some .int), .fieldLink RX5 45 "LoserDrawsModel" "fault" "I", .methodLink RX5 87 yX5_failed, .instanceMethod yX5_failed, .selects RX5 yX5_failed yX5_failed, .code yX5_failed cX5_failed 2 (some .int), .methodLink RX5 91 yX5_isBeyond, .static yX5_isBeyond, .code yX5_isBeyond cX5_isBeyond 4 (some .boolean)] ++ wsX50)
def wsX5_traced : List Cond := .code yX5_traced cX5_traced 2 none :: ([.fieldLink RX5 205 "LoserDrawsModel" "traceNow" "I"] ++ wsX50)
def wsX5_tell : List Cond := .code yX5_tell cX5_tell 4 (some .int) :: ([.fieldLink RX5 7 "LoserDrawsModel" "kindOf" "[I", .fieldLink RX5 13 "LoserDrawsModel" "ticketsOf" "[I", .methodLink RX5 129 yX5_noCitizen, .instanceMethod yX5_noCitizen, .selects RX5 yX5_noCitizen yX5_noCitizen, .initialized RX5, .code yX5_noCitizen cX5_noCitizen 2 (some .boolean), .fieldLink RX5 53 "LoserDrawsModel" "citizens" "I", .methodLink RX5 56 yX5_in, .static yX5_in, .code yX5_in cX5_in 6 (some .boolean), .methodLink RX5 208 yX5_traced, .instanceMethod yX5_traced, .selects RX5 yX5_traced yX5_traced, .code yX5_traced cX5_traced 2 none, .fieldLink RX5 205 "LoserDrawsModel" "traceNow" "I"] ++ wsX50)
def wsX5_call : List Cond := .code yX5_call cX5_call 2 (some .int) :: ([.fieldLink RX5 7 "LoserDrawsModel" "kindOf" "[I", .methodLink RX5 129 yX5_noCitizen, .instanceMethod yX5_noCitizen, .selects RX5 yX5_noCitizen yX5_noCitizen, .initialized RX5, .code yX5_noCitizen cX5_noCitizen 2 (some .boolean), .fieldLink RX5 53 "LoserDrawsModel" "citizens" "I", .methodLink RX5 56 yX5_in, .static yX5_in, .code yX5_in cX5_in 6 (some .boolean), .methodLink RX5 208 yX5_traced, .instanceMethod yX5_traced, .selects RX5 yX5_traced yX5_traced, .code yX5_traced cX5_traced 2 none, .fieldLink RX5 205 "LoserDrawsModel" "traceNow" "I"] ++ wsX50)
def wsX5_as : List Cond := .code yX5_as cX5_as 3 (some .int) :: ([.constantLong RX5 102 (2), .fieldLink RX5 7 "LoserDrawsModel" "kindOf" "[I", .methodLink RX5 129 yX5_noCitizen, .instanceMethod yX5_noCitizen, .selects RX5 yX5_noCitizen yX5_noCitizen, .initialized RX5, .code yX5_noCitizen cX5_noCitizen 2 (some .boolean), .fieldLink RX5 53 "LoserDrawsModel" "citizens" "I", .methodLink RX5 56 yX5_in, .static yX5_in, .code yX5_in cX5_in 6 (some .boolean), .methodLink RX5 99 yX5_refused, .instanceMethod yX5_refused, .selects RX5 yX5_refused yX5_refused, .code yX5_refused cX5_refused 2 (some .int), .fieldLink RX5 45 "LoserDrawsModel" "fault" "I", .methodLink RX5 87 yX5_failed, .instanceMethod yX5_failed, .selects RX5 yX5_failed yX5_failed, .code yX5_failed cX5_failed 2 (some .int)] ++ wsX50)
def wsX5_trace : List Cond := .code yX5_trace cX5_trace 1 (some .int) :: ([.fieldLink RX5 205 "LoserDrawsModel" "traceNow" "I"] ++ wsX50)
def wsX5_fault : List Cond := .code yX5_fault cX5_fault 1 (some .int) :: ([.fieldLink RX5 45 "LoserDrawsModel" "fault" "I"] ++ wsX50)
def wsX5_many : List Cond := .code yX5_many cX5_many 2 (some .int) :: ([.fieldLink RX5 53 "LoserDrawsModel" "citizens" "I", .fieldLink RX5 111 "LoserDrawsModel" "drawnNow" "I", .fieldLink RX5 114 "LoserDrawsModel" "priceNow" "I", .fieldLink RX5 120 "LoserDrawsModel" "readings" "I", .methodLink RX5 145 yX5_everybody, .instanceMethod yX5_everybody, .selects RX5 yX5_everybody yX5_everybody, .initialized RX5, .code yX5_everybody cX5_everybody 1 (some .int), .methodLink RX5 132 yX5_slipsOfAll, .instanceMethod yX5_slipsOfAll, .selects RX5 yX5_slipsOfAll yX5_slipsOfAll, .code yX5_slipsOfAll cX5_slipsOfAll 4 (some .int), .methodLink RX5 123 yX5_isIn, .static yX5_isIn, .code yX5_isIn cX5_isIn 2 (some .boolean), .methodLink RX5 126 yX5_slipsOf, .instanceMethod yX5_slipsOf, .selects RX5 yX5_slipsOf yX5_slipsOf, .code yX5_slipsOf cX5_slipsOf 3 (some .int), .fieldLink RX5 13 "LoserDrawsModel" "ticketsOf" "[I", .fieldLink RX5 7 "LoserDrawsModel" "kindOf" "[I"] ++ wsX50)
def wsJ9_max_7cf53 : List Cond := .code yJ9_max_7cf53 cJ9_max_7cf53 2 (some .int) :: ([])
def wsJ9_min_7cf53 : List Cond := .code yJ9_min_7cf53 cJ9_min_7cf53 2 (some .int) :: ([])
def wsL_law_r1 : List Cond := [Cond.classLink RL 7 RX4, Cond.instantiable RX4 10, Cond.initialized RX4, Cond.classLink RL 10 RX5, Cond.instantiable RX5 24, Cond.initialized RX5, Cond.methodLink RL 9 yX4_init, Cond.instanceMethod yX4_init, Cond.code yX4_init cX4_init 2 none, Cond.methodLink RX4 3 objectInit, Cond.instanceMethod objectInit, Cond.code objectInit ⟨#[0xb1]⟩ 1 none, Cond.classLink RX4 11 RX0, Cond.fieldLink RX4 13 "LoserDraws" "citizens" "[LLoserDraws$Citizen;", Cond.arrayClass .int, Cond.fieldLink RX4 17 "LoserDraws" "readings" "[I", Cond.classLink RX4 21 RX2, Cond.fieldLink RX4 23 "LoserDraws" "sheets" "[LLoserDraws$Row;", Cond.classLink RX4 27 RX1, Cond.instantiable RX1 7, Cond.initialized RX1, Cond.fieldLink RX4 30 "LoserDraws" "drum" "LLoserDraws$Drum;", Cond.instantiable RX0 4, Cond.initialized RX0]
def wsL_law_r2 : List Cond := [Cond.instantiable RX2 4, Cond.initialized RX2, Cond.instanceMethod yX1_init, Cond.code yX1_init cX1_init 1 none, Cond.methodLink RX1 3 objectInit, Cond.fieldLink RX1 9 "LoserDraws$Drum" "slips" "[I", Cond.arrayClass .long, Cond.fieldLink RX1 15 "LoserDraws$Drum" "picks" "[J", Cond.fieldLink RX1 19 "LoserDraws$Drum" "freeing" "[J", Cond.instanceMethod yX0_init, Cond.code yX0_init cX0_init 1 none, Cond.methodLink RX0 1 objectInit, Cond.instanceMethod yX2_init, Cond.code yX2_init cX2_init 1 none, Cond.methodLink RX2 3 objectInit, Cond.fieldLink RX2 9 "LoserDraws$Row" "cells" "[I", Cond.methodLink RL 12 yX5_init, Cond.instanceMethod yX5_init, Cond.code yX5_init cX5_init 2 none, Cond.methodLink RX5 1 objectInit, Cond.fieldLink RX5 7 "LoserDrawsModel" "kindOf" "[I", Cond.fieldLink RX5 13 "LoserDrawsModel" "ticketsOf" "[I", Cond.fieldLink RX5 16 "LoserDrawsModel" "geeseOf" "[I", Cond.fieldLink RX5 19 "LoserDrawsModel" "readKind" "[I"]
def wsL_law_r3 : List Cond := [Cond.fieldLink RX5 22 "LoserDrawsModel" "readTickets" "[I", Cond.fieldLink RX5 25 "LoserDrawsModel" "readGeese" "[I", Cond.fieldLink RX5 28 "LoserDrawsModel" "readingSet" "[I", Cond.fieldLink RX5 31 "LoserDrawsModel" "sheetSize" "[I", Cond.fieldLink RX5 34 "LoserDrawsModel" "sheetLane" "[I", Cond.fieldLink RX5 37 "LoserDrawsModel" "sheet" "[I", Cond.fieldLink RX5 40 "LoserDrawsModel" "hands" "[I", Cond.methodLink RL 13 yX4_republic, Cond.instanceMethod yX4_republic, Cond.selects RX4 yX4_republic yX4_republic, Cond.code yX4_republic cX4_republic 8 (some .int), Cond.fieldLink RX4 36 "LoserDraws" "lastFault" "I", Cond.fieldLink RX4 69 "LoserDraws" "people" "I", Cond.methodLink RX4 40 yX4_isSheet, Cond.static yX4_isSheet, Cond.code yX4_isSheet cX4_isSheet 1 (some .boolean), Cond.methodLink RX4 44 yX4_isLane, Cond.static yX4_isLane, Cond.code yX4_isLane cX4_isLane 1 (some .boolean), Cond.methodLink RX4 47 yX4_rowOf, Cond.instanceMethod yX4_rowOf, Cond.selects RX4 yX4_rowOf yX4_rowOf, Cond.code yX4_rowOf cX4_rowOf 3 (some (.object "LoserDraws$Row")), Cond.methodLink RX4 170 yX4_placeOf]
def wsL_law_r4 : List Cond := [Cond.instanceMethod yX4_placeOf, Cond.selects RX4 yX4_placeOf yX4_placeOf, Cond.code yX4_placeOf cX4_placeOf 2 (some (.object "LoserDraws$Row")), Cond.methodLink RX4 51 yX4_faultOf, Cond.static yX4_faultOf, Cond.code yX4_faultOf cX4_faultOf 4 (some .int), Cond.instanceMethod yX2_holds, Cond.selects RX2 yX2_holds yX2_holds, Cond.code yX2_holds cX2_holds 3 (some .boolean), Cond.fieldLink RX2 32 "LoserDraws$Row" "length" "I", Cond.methodLink RX4 55 yX4_faulted, Cond.instanceMethod yX4_faulted, Cond.selects RX4 yX4_faulted yX4_faulted, Cond.code yX4_faulted cX4_faulted 2 (some .int), Cond.static yX3_firstFault, Cond.initialized RX3, Cond.code yX3_firstFault cX3_firstFault 4 (some .int), Cond.instanceMethod yX2_at, Cond.selects RX2 yX2_at yX2_at, Cond.code yX2_at cX2_at 2 (some .int), Cond.methodLink RX3 15 yX3_goesOnWith, Cond.static yX3_goesOnWith, Cond.code yX3_goesOnWith cX3_goesOnWith 2 (some .boolean), Cond.methodLink RX3 21 yX3_isDigit]
def wsL_law_r5 : List Cond := [Cond.static yX3_isDigit, Cond.code yX3_isDigit cX3_isDigit 3 (some .boolean), Cond.methodLink RX3 25 yX3_citizenGoesOnWith, Cond.static yX3_citizenGoesOnWith, Cond.code yX3_citizenGoesOnWith cX3_citizenGoesOnWith 2 (some .boolean), Cond.methodLink RX4 65 yX4_takeText, Cond.instanceMethod yX4_takeText, Cond.selects RX4 yX4_takeText yX4_takeText, Cond.code yX4_takeText cX4_takeText 6 none, Cond.fieldLink RX4 96 "LoserDraws" "drawnNow" "I", Cond.fieldLink RX4 99 "LoserDraws" "priceNow" "I", Cond.fieldLink RX4 160 "LoserDraws" "readingsKept" "I", Cond.static yX3_citizensIn, Cond.code yX3_citizensIn cX3_citizensIn 1 (some .int), Cond.methodLink RX3 28 Lib.Math.min.name, Cond.static Lib.Math.min.name, Cond.initialized "java/lang/Math", Cond.code Lib.Math.min.name Lib.Math.min.code 2 (some .int), Cond.static yX3_digit, Cond.code yX3_digit cX3_digit 1 (some .int), Cond.methodLink RX4 72 yX4_citizen, Cond.instanceMethod yX4_citizen, Cond.selects RX4 yX4_citizen yX4_citizen, Cond.code yX4_citizen cX4_citizen 2 (some (.object "LoserDraws$Citizen"))]
def wsL_law_r6 : List Cond := [Cond.static yX3_tellCitizen, Cond.code yX3_tellCitizen cX3_tellCitizen 4 none, Cond.methodLink RX3 40 yX3_digit, Cond.methodLink RL 17 yX5_republic, Cond.instanceMethod yX5_republic, Cond.selects RX5 yX5_republic yX5_republic, Cond.code yX5_republic cX5_republic 7 (some .int), Cond.constantLong RX5 102 (2), Cond.fieldLink RX5 60 "LoserDrawsModel" "readAt" "I", Cond.fieldLink RX5 77 "LoserDrawsModel" "readDrawn" "I", Cond.fieldLink RX5 111 "LoserDrawsModel" "drawnNow" "I", Cond.fieldLink RX5 80 "LoserDrawsModel" "readPrice" "I", Cond.fieldLink RX5 114 "LoserDrawsModel" "priceNow" "I", Cond.fieldLink RX5 67 "LoserDrawsModel" "readCitizens" "I", Cond.fieldLink RX5 53 "LoserDrawsModel" "citizens" "I", Cond.fieldLink RX5 74 "LoserDrawsModel" "readWishing" "I", Cond.fieldLink RX5 117 "LoserDrawsModel" "wishing" "I", Cond.fieldLink RX5 120 "LoserDrawsModel" "readings" "I", Cond.methodLink RX5 95 yX5_noSheet, Cond.static yX5_noSheet, Cond.code yX5_noSheet cX5_noSheet 1 (some .boolean), Cond.constantLong RX5 197 (3), Cond.methodLink RX5 56 yX5_in, Cond.static yX5_in]
def wsL_law_r7 : List Cond := [Cond.code yX5_in cX5_in 6 (some .boolean), Cond.methodLink RX5 99 yX5_refused, Cond.instanceMethod yX5_refused, Cond.selects RX5 yX5_refused yX5_refused, Cond.code yX5_refused cX5_refused 2 (some .int), Cond.fieldLink RX5 45 "LoserDrawsModel" "fault" "I", Cond.methodLink RX5 104 yX5_cellsBarred, Cond.instanceMethod yX5_cellsBarred, Cond.selects RX5 yX5_cellsBarred yX5_cellsBarred, Cond.code yX5_cellsBarred cX5_cellsBarred 6 (some .int), Cond.methodLink RX5 87 yX5_failed, Cond.instanceMethod yX5_failed, Cond.selects RX5 yX5_failed yX5_failed, Cond.code yX5_failed cX5_failed 2 (some .int), Cond.methodLink RX5 91 yX5_isBeyond, Cond.static yX5_isBeyond, Cond.code yX5_isBeyond cX5_isBeyond 4 (some .boolean), Cond.methodLink RX5 108 yX5_readsRepublic, Cond.instanceMethod yX5_readsRepublic, Cond.selects RX5 yX5_readsRepublic yX5_readsRepublic, Cond.code yX5_readsRepublic cX5_readsRepublic 4 (some .boolean), Cond.methodLink RX5 63 yX5_codeAt, Cond.instanceMethod yX5_codeAt, Cond.selects RX5 yX5_codeAt yX5_codeAt]
def wsL_law_r8 : List Cond := [Cond.code yX5_codeAt cX5_codeAt 3 (some .int), Cond.methodLink RX5 70 yX5_figure, Cond.instanceMethod yX5_figure, Cond.selects RX5 yX5_figure yX5_figure, Cond.code yX5_figure cX5_figure 7 (some .int), Cond.methodLink RX5 83 yX5_readsCitizen, Cond.instanceMethod yX5_readsCitizen, Cond.selects RX5 yX5_readsCitizen yX5_readsCitizen, Cond.code yX5_readsCitizen cX5_readsCitizen 8 (some .boolean), Cond.methodLink RL 18 yX4_ofCitizen, Cond.instanceMethod yX4_ofCitizen, Cond.selects RX4 yX4_ofCitizen yX4_ofCitizen, Cond.code yX4_ofCitizen cX4_ofCitizen 4 (some .int), Cond.instanceMethod yX0_slips, Cond.selects RX0 yX0_slips yX0_slips, Cond.code yX0_slips cX0_slips 1 (some .int), Cond.fieldLink RX0 7 "LoserDraws$Citizen" "kind" "I", Cond.fieldLink RX0 13 "LoserDraws$Citizen" "tickets" "I", Cond.static yX4_slipsOf, Cond.code yX4_slipsOf cX4_slipsOf 3 (some .int), Cond.methodLink RX4 93 yX4_slipsAhead, Cond.instanceMethod yX4_slipsAhead, Cond.selects RX4 yX4_slipsAhead yX4_slipsAhead, Cond.code yX4_slipsAhead cX4_slipsAhead 5 (some .int)]
def wsL_law_r9 : List Cond := [Cond.methodLink RL 22 yX5_ofCitizen, Cond.instanceMethod yX5_ofCitizen, Cond.selects RX5 yX5_ofCitizen yX5_ofCitizen, Cond.code yX5_ofCitizen cX5_ofCitizen 3 (some .int), Cond.methodLink RX5 129 yX5_noCitizen, Cond.instanceMethod yX5_noCitizen, Cond.selects RX5 yX5_noCitizen yX5_noCitizen, Cond.code yX5_noCitizen cX5_noCitizen 2 (some .boolean), Cond.methodLink RX5 123 yX5_isIn, Cond.static yX5_isIn, Cond.code yX5_isIn cX5_isIn 2 (some .boolean), Cond.methodLink RX5 126 yX5_slipsOf, Cond.instanceMethod yX5_slipsOf, Cond.selects RX5 yX5_slipsOf yX5_slipsOf, Cond.code yX5_slipsOf cX5_slipsOf 3 (some .int), Cond.methodLink RX5 132 yX5_slipsOfAll, Cond.instanceMethod yX5_slipsOfAll, Cond.selects RX5 yX5_slipsOfAll yX5_slipsOfAll, Cond.code yX5_slipsOfAll cX5_slipsOfAll 4 (some .int), Cond.methodLink RL 23 yX4_drawn, Cond.instanceMethod yX4_drawn, Cond.selects RX4 yX4_drawn yX4_drawn, Cond.code yX4_drawn cX4_drawn 3 (some .int), Cond.methodLink RL 27 yX5_drawn]
def wsL_law_r10 : List Cond := [Cond.instanceMethod yX5_drawn, Cond.selects RX5 yX5_drawn yX5_drawn, Cond.code yX5_drawn cX5_drawn 3 (some .int), Cond.constantLong RX5 135 (6), Cond.methodLink RL 28 yX4_price, Cond.instanceMethod yX4_price, Cond.selects RX4 yX4_price yX4_price, Cond.code yX4_price cX4_price 3 (some .int), Cond.methodLink RL 31 yX5_price, Cond.instanceMethod yX5_price, Cond.selects RX5 yX5_price yX5_price, Cond.code yX5_price cX5_price 3 (some .int), Cond.constantLong RX5 137 (9), Cond.methodLink RL 32 yX4_wish, Cond.instanceMethod yX4_wish, Cond.selects RX4 yX4_wish yX4_wish, Cond.code yX4_wish cX4_wish 4 (some .int), Cond.methodLink RL 36 yX5_wish, Cond.instanceMethod yX5_wish, Cond.selects RX5 yX5_wish yX5_wish, Cond.code yX5_wish cX5_wish 4 (some .int), Cond.methodLink RL 37 yX4_draw, Cond.instanceMethod yX4_draw, Cond.selects RX4 yX4_draw yX4_draw]
def wsL_law_r11 : List Cond := [Cond.code yX4_draw cX4_draw 10 (some .int), Cond.methodLink RX4 102 yX4_firstWrong, Cond.instanceMethod yX4_firstWrong, Cond.selects RX4 yX4_firstWrong yX4_firstWrong, Cond.code yX4_firstWrong cX4_firstWrong 6 (some .int), Cond.methodLink RX4 229 yX4_ownerOf, Cond.instanceMethod yX4_ownerOf, Cond.selects RX4 yX4_ownerOf yX4_ownerOf, Cond.code yX4_ownerOf cX4_ownerOf 5 (some .int), Cond.instanceMethod yX2_has, Cond.selects RX2 yX2_has yX2_has, Cond.code yX2_has cX2_has 5 (some .boolean), Cond.methodLink RX2 39 yX2_at, Cond.methodLink RX4 105 yX4_rulersBy, Cond.instanceMethod yX4_rulersBy, Cond.selects RX4 yX4_rulersBy yX4_rulersBy, Cond.code yX4_rulersBy cX4_rulersBy 7 (some .int), Cond.methodLink RX4 108 yX4_fillDrum, Cond.instanceMethod yX4_fillDrum, Cond.selects RX4 yX4_fillDrum yX4_fillDrum, Cond.code yX4_fillDrum cX4_fillDrum 3 none, Cond.instanceMethod yX1_empty, Cond.selects RX1 yX1_empty yX1_empty, Cond.code yX1_empty cX1_empty 4 none]
def wsL_law_r12 : List Cond := [Cond.methodLink RX1 22 Lib.Math.min.name, Cond.methodLink RX1 28 Lib.Math.max.name, Cond.static Lib.Math.max.name, Cond.code Lib.Math.max.name Lib.Math.max.code 2 (some .int), Cond.fieldLink RX1 31 "LoserDraws$Drum" "people" "I", Cond.fieldLink RX1 35 "LoserDraws$Drum" "wishers" "I", Cond.fieldLink RX1 38 "LoserDraws$Drum" "total" "I", Cond.methodLink RX1 41 yX1_setDrawn, Cond.instanceMethod yX1_setDrawn, Cond.selects RX1 yX1_setDrawn yX1_setDrawn, Cond.code yX1_setDrawn cX1_setDrawn 2 none, Cond.fieldLink RX1 45 "LoserDraws$Drum" "drawn" "I", Cond.instanceMethod yX1_setSlips, Cond.selects RX1 yX1_setSlips yX1_setSlips, Cond.code yX1_setSlips cX1_setSlips 5 none, Cond.methodLink RX1 48 yX1_choose, Cond.static yX1_choose, Cond.code yX1_choose cX1_choose 5 (some .long), Cond.instanceMethod yX1_setWishes, Cond.selects RX1 yX1_setWishes yX1_setWishes, Cond.code yX1_setWishes cX1_setWishes 4 none, Cond.instanceMethod yX1_passesUnder, Cond.selects RX1 yX1_passesUnder yX1_passesUnder, Cond.code yX1_passesUnder cX1_passesUnder 2 (some .boolean)]
def wsL_law_r13 : List Cond := [Cond.methodLink RX1 73 yJ6_bitCount_0f7a4, Cond.static yJ6_bitCount_0f7a4, Cond.initialized RJ6, Cond.code yJ6_bitCount_0f7a4 cJ6_bitCount_0f7a4 1 (some .int), Cond.constant RJ6 265 (1431655765), Cond.constant RJ6 266 (858993459), Cond.constant RJ6 267 (252645135), Cond.methodLink RL 41 yX5_draw, Cond.instanceMethod yX5_draw, Cond.selects RX5 yX5_draw yX5_draw, Cond.code yX5_draw cX5_draw 8 (some .int), Cond.constantLong RX5 152 (20), Cond.fieldLink RX5 142 "LoserDrawsModel" "firstWrong" "I", Cond.methodLink RX5 145 yX5_everybody, Cond.instanceMethod yX5_everybody, Cond.selects RX5 yX5_everybody yX5_everybody, Cond.code yX5_everybody cX5_everybody 1 (some .int), Cond.methodLink RX5 154 yX5_freeBy, Cond.instanceMethod yX5_freeBy, Cond.selects RX5 yX5_freeBy yX5_freeBy, Cond.code yX5_freeBy cX5_freeBy 8 (some .int), Cond.methodLink RX5 149 yX5_ownerOf, Cond.instanceMethod yX5_ownerOf, Cond.selects RX5 yX5_ownerOf yX5_ownerOf]
def wsL_law_r14 : List Cond := [Cond.code yX5_ownerOf cX5_ownerOf 4 (some .int), Cond.methodLink RX5 157 yX5_doesPass, Cond.instanceMethod yX5_doesPass, Cond.selects RX5 yX5_doesPass yX5_doesPass, Cond.code yX5_doesPass cX5_doesPass 2 (some .boolean), Cond.methodLink RX5 139 yX5_bits, Cond.static yX5_bits, Cond.code yX5_bits cX5_bits 3 (some .int), Cond.methodLink RL 42 yX4_rules, Cond.instanceMethod yX4_rules, Cond.selects RX4 yX4_rules yX4_rules, Cond.code yX4_rules cX4_rules 3 (some .long), Cond.constantLong RX4 117 (-9223372036854775808), Cond.methodLink RX4 114 yX4_isWhich, Cond.static yX4_isWhich, Cond.code yX4_isWhich cX4_isWhich 1 (some .boolean), Cond.instanceMethod yX1_drawsSparing, Cond.selects RX1 yX1_drawsSparing yX1_drawsSparing, Cond.code yX1_drawsSparing cX1_drawsSparing 2 (some .long), Cond.methodLink RX1 56 yX1_slipsOfOne, Cond.instanceMethod yX1_slipsOfOne, Cond.selects RX1 yX1_slipsOfOne yX1_slipsOfOne, Cond.code yX1_slipsOfOne cX1_slipsOfOne 2 (some .int), Cond.methodLink RX1 52 yX1_taken]
def wsL_law_r15 : List Cond := [Cond.instanceMethod yX1_taken, Cond.selects RX1 yX1_taken yX1_taken, Cond.code yX1_taken cX1_taken 1 (some .int), Cond.instanceMethod yX1_draws, Cond.selects RX1 yX1_draws yX1_draws, Cond.code yX1_draws cX1_draws 1 (some .long), Cond.methodLink RX4 127 yX4_partOf, Cond.static yX4_partOf, Cond.code yX4_partOf cX4_partOf 12 (some .long), Cond.methodLink RL 46 yX5_rules, Cond.instanceMethod yX5_rules, Cond.selects RX5 yX5_rules yX5_rules, Cond.code yX5_rules cX5_rules 3 (some .long), Cond.methodLink RX5 49 yX5_lost, Cond.static yX5_lost, Cond.code yX5_lost cX5_lost 0 (some .long), Cond.constantLong RX5 43 (-9223372036854775808), Cond.methodLink RX5 167 yX5_drawsWithout, Cond.instanceMethod yX5_drawsWithout, Cond.selects RX5 yX5_drawsWithout yX5_drawsWithout, Cond.code yX5_drawsWithout cX5_drawsWithout 3 (some .long), Cond.methodLink RX5 160 yX5_drawnOf, Cond.instanceMethod yX5_drawnOf, Cond.selects RX5 yX5_drawnOf yX5_drawnOf]
def wsL_law_r16 : List Cond := [Cond.code yX5_drawnOf cX5_drawnOf 2 (some .int), Cond.methodLink RX5 163 yX5_waysOf, Cond.static yX5_waysOf, Cond.code yX5_waysOf cX5_waysOf 5 (some .long), Cond.methodLink RX5 171 yX5_allDraws, Cond.instanceMethod yX5_allDraws, Cond.selects RX5 yX5_allDraws yX5_allDraws, Cond.code yX5_allDraws cX5_allDraws 2 (some .long), Cond.methodLink RX5 174 yX5_share, Cond.static yX5_share, Cond.code yX5_share cX5_share 11 (some .long), Cond.methodLink RL 47 yX4_just, Cond.instanceMethod yX4_just, Cond.selects RX4 yX4_just yX4_just, Cond.code yX4_just cX4_just 3 (some .long), Cond.methodLink RX4 131 yX4_isSet, Cond.instanceMethod yX4_isSet, Cond.selects RX4 yX4_isSet yX4_isSet, Cond.code yX4_isSet cX4_isSet 2 (some .boolean), Cond.instanceMethod yX1_drawsLeavingJust, Cond.selects RX1 yX1_drawsLeavingJust yX1_drawsLeavingJust, Cond.code yX1_drawsLeavingJust cX1_drawsLeavingJust 2 (some .long), Cond.methodLink RX1 60 yX1_countFreeing, Cond.instanceMethod yX1_countFreeing]
def wsL_law_r17 : List Cond := [Cond.selects RX1 yX1_countFreeing yX1_countFreeing, Cond.code yX1_countFreeing cX1_countFreeing 3 none, Cond.methodLink RX1 87 yX1_countFreeingWith, Cond.instanceMethod yX1_countFreeingWith, Cond.selects RX1 yX1_countFreeingWith yX1_countFreeingWith, Cond.code yX1_countFreeingWith cX1_countFreeingWith 7 none, Cond.methodLink RX1 91 yX1_waysWithLast, Cond.instanceMethod yX1_waysWithLast, Cond.selects RX1 yX1_waysWithLast yX1_waysWithLast, Cond.code yX1_waysWithLast cX1_waysWithLast 10 (some .long), Cond.methodLink RX1 63 yX1_everybody, Cond.instanceMethod yX1_everybody, Cond.selects RX1 yX1_everybody yX1_everybody, Cond.code yX1_everybody cX1_everybody 1 (some .int), Cond.methodLink RX1 66 yX1_freeingBy, Cond.instanceMethod yX1_freeingBy, Cond.selects RX1 yX1_freeingBy yX1_freeingBy, Cond.code yX1_freeingBy cX1_freeingBy 4 (some .long), Cond.methodLink RL 50 yX5_just, Cond.instanceMethod yX5_just, Cond.selects RX5 yX5_just yX5_just, Cond.code yX5_just cX5_just 3 (some .long), Cond.methodLink RX5 178 yX5_drawsOf, Cond.instanceMethod yX5_drawsOf]
def wsL_law_r18 : List Cond := [Cond.selects RX5 yX5_drawsOf yX5_drawsOf, Cond.code yX5_drawsOf cX5_drawsOf 9 (some .long), Cond.methodLink RL 51 yX4_mean, Cond.instanceMethod yX4_mean, Cond.selects RX4 yX4_mean yX4_mean, Cond.code yX4_mean cX4_mean 5 (some .long), Cond.methodLink RL 55 yX5_mean, Cond.instanceMethod yX5_mean, Cond.selects RX5 yX5_mean yX5_mean, Cond.code yX5_mean cX5_mean 5 (some .long), Cond.methodLink RL 56 yX4_passes, Cond.instanceMethod yX4_passes, Cond.selects RX4 yX4_passes yX4_passes, Cond.code yX4_passes cX4_passes 2 (some .long), Cond.instanceMethod yX1_drawsPassing, Cond.selects RX1 yX1_drawsPassing yX1_drawsPassing, Cond.code yX1_drawsPassing cX1_drawsPassing 5 (some .long), Cond.methodLink RX1 69 yX1_passesUnder, Cond.methodLink RL 59 yX5_passes, Cond.instanceMethod yX5_passes, Cond.selects RX5 yX5_passes yX5_passes, Cond.code yX5_passes cX5_passes 2 (some .long), Cond.methodLink RX5 181 yX5_passingDraws, Cond.instanceMethod yX5_passingDraws]
def wsL_law_r19 : List Cond := [Cond.selects RX5 yX5_passingDraws yX5_passingDraws, Cond.code yX5_passingDraws cX5_passingDraws 4 (some .long), Cond.methodLink RL 60 yX4_buy, Cond.instanceMethod yX4_buy, Cond.selects RX4 yX4_buy yX4_buy, Cond.code yX4_buy cX4_buy 8 (some .int), Cond.methodLink RL 64 yX5_buy, Cond.instanceMethod yX5_buy, Cond.selects RX5 yX5_buy yX5_buy, Cond.code yX5_buy cX5_buy 10 (some .int), Cond.constantLong RX5 184 (999), Cond.methodLink RL 65 yX4_lend, Cond.instanceMethod yX4_lend, Cond.selects RX4 yX4_lend yX4_lend, Cond.code yX4_lend cX4_lend 14 (some .int), Cond.methodLink RX4 144 yX4_slipsOf, Cond.methodLink RX4 148 yX4_isMore, Cond.static yX4_isMore, Cond.code yX4_isMore cX4_isMore 8 (some .boolean), Cond.methodLink RL 68 yX5_lend, Cond.instanceMethod yX5_lend, Cond.selects RX5 yX5_lend yX5_lend, Cond.code yX5_lend cX5_lend 12 (some .int), Cond.methodLink RX5 186 yX5_isAbove]
def wsL_law_r20 : List Cond := [Cond.static yX5_isAbove, Cond.code yX5_isAbove cX5_isAbove 21 (some .boolean), Cond.methodLink RL 69 yX4_least, Cond.instanceMethod yX4_least, Cond.selects RX4 yX4_least yX4_least, Cond.code yX4_least cX4_least 7 (some .int), Cond.instanceMethod yX1_passesByHalf, Cond.selects RX1 yX1_passesByHalf yX1_passesByHalf, Cond.code yX1_passesByHalf cX1_passesByHalf 1 (some .boolean), Cond.constantLong RX1 78 (2), Cond.methodLink RX1 80 yX1_drawsPassing, Cond.methodLink RX1 84 yX1_draws, Cond.methodLink RL 72 yX5_least, Cond.instanceMethod yX5_least, Cond.selects RX5 yX5_least yX5_least, Cond.code yX5_least cX5_least 7 (some .int), Cond.methodLink RX5 190 yX5_isLikely, Cond.instanceMethod yX5_isLikely, Cond.selects RX5 yX5_isLikely yX5_isLikely, Cond.code yX5_isLikely cX5_isLikely 1 (some .boolean), Cond.methodLink RL 73 yX4_reading, Cond.instanceMethod yX4_reading, Cond.selects RX4 yX4_reading yX4_reading, Cond.code yX4_reading cX4_reading 2 (some .int)]
def wsL_law_r21 : List Cond := [Cond.methodLink RL 76 yX5_reading, Cond.instanceMethod yX5_reading, Cond.selects RX5 yX5_reading yX5_reading, Cond.code yX5_reading cX5_reading 2 (some .int), Cond.methodLink RL 77 yX4_back, Cond.instanceMethod yX4_back, Cond.selects RX4 yX4_back yX4_back, Cond.code yX4_back cX4_back 2 (some .int), Cond.methodLink RL 80 yX5_back, Cond.instanceMethod yX5_back, Cond.selects RX5 yX5_back yX5_back, Cond.code yX5_back cX5_back 2 (some .int), Cond.methodLink RL 81 yX4_tickets, Cond.instanceMethod yX4_tickets, Cond.selects RX4 yX4_tickets yX4_tickets, Cond.code yX4_tickets cX4_tickets 5 (some .int), Cond.methodLink RX4 163 yX4_allReadingsCanBe, Cond.instanceMethod yX4_allReadingsCanBe, Cond.selects RX4 yX4_allReadingsCanBe yX4_allReadingsCanBe, Cond.code yX4_allReadingsCanBe cX4_allReadingsCanBe 2 (some .boolean), Cond.instanceMethod yX1_canLeaveJust, Cond.selects RX1 yX1_canLeaveJust yX1_canLeaveJust, Cond.code yX1_canLeaveJust cX1_canLeaveJust 5 (some .boolean), Cond.methodLink RL 84 yX5_tickets]
def wsL_law_r22 : List Cond := [Cond.instanceMethod yX5_tickets, Cond.selects RX5 yX5_tickets yX5_tickets, Cond.code yX5_tickets cX5_tickets 5 (some .int), Cond.methodLink RX5 194 yX5_canBe, Cond.instanceMethod yX5_canBe, Cond.selects RX5 yX5_canBe yX5_canBe, Cond.code yX5_canBe cX5_canBe 3 (some .boolean), Cond.methodLink RL 85 yX4_kinds, Cond.instanceMethod yX4_kinds, Cond.selects RX4 yX4_kinds yX4_kinds, Cond.code yX4_kinds cX4_kinds 5 (some .int), Cond.methodLink RL 88 yX5_kinds, Cond.instanceMethod yX5_kinds, Cond.selects RX5 yX5_kinds yX5_kinds, Cond.code yX5_kinds cX5_kinds 5 (some .int), Cond.methodLink RL 89 yX4_counts, Cond.instanceMethod yX4_counts, Cond.selects RX4 yX4_counts yX4_counts, Cond.code yX4_counts cX4_counts 3 (some .int), Cond.methodLink RL 93 yX5_counts, Cond.instanceMethod yX5_counts, Cond.selects RX5 yX5_counts yX5_counts, Cond.code yX5_counts cX5_counts 4 (some .int), Cond.methodLink RL 94 yX4_sheet]
def wsL_law_r23 : List Cond := [Cond.instanceMethod yX4_sheet, Cond.selects RX4 yX4_sheet yX4_sheet, Cond.code yX4_sheet cX4_sheet 5 (some .int), Cond.instanceMethod yX2_begin, Cond.selects RX2 yX2_begin yX2_begin, Cond.code yX2_begin cX2_begin 4 none, Cond.fieldLink RX2 15 "LoserDraws$Row" "isThere" "Z", Cond.fieldLink RX2 19 "LoserDraws$Row" "lane" "I", Cond.methodLink RX2 23 Lib.Math.min.name, Cond.methodLink RX2 29 Lib.Math.max.name, Cond.methodLink RL 97 yX5_sheet, Cond.instanceMethod yX5_sheet, Cond.selects RX5 yX5_sheet yX5_sheet, Cond.code yX5_sheet cX5_sheet 5 (some .int), Cond.methodLink RL 98 yX4_lose, Cond.instanceMethod yX4_lose, Cond.selects RX4 yX4_lose yX4_lose, Cond.code yX4_lose cX4_lose 3 (some .int), Cond.instanceMethod yX2_end, Cond.selects RX2 yX2_end yX2_end, Cond.code yX2_end cX2_end 1 none, Cond.methodLink RL 101 yX5_lose, Cond.instanceMethod yX5_lose, Cond.selects RX5 yX5_lose yX5_lose]
def wsL_law_r24 : List Cond := [Cond.code yX5_lose cX5_lose 3 (some .int), Cond.methodLink RL 102 yX4_put, Cond.instanceMethod yX4_put, Cond.selects RX4 yX4_put yX4_put, Cond.code yX4_put cX4_put 5 (some .int), Cond.instanceMethod yX2_set, Cond.selects RX2 yX2_set yX2_set, Cond.code yX2_set cX2_set 3 none, Cond.methodLink RX2 35 yX2_cut, Cond.instanceMethod yX2_cut, Cond.selects RX2 yX2_cut yX2_cut, Cond.code yX2_cut cX2_cut 2 (some .int), Cond.methodLink RL 105 yX5_put, Cond.instanceMethod yX5_put, Cond.selects RX5 yX5_put yX5_put, Cond.code yX5_put cX5_put 4 (some .int), Cond.methodLink RX5 199 yX5_noCell, Cond.instanceMethod yX5_noCell, Cond.selects RX5 yX5_noCell yX5_noCell, Cond.code yX5_noCell cX5_noCell 3 (some .int), Cond.methodLink RL 106 yX4_cell, Cond.instanceMethod yX4_cell, Cond.selects RX4 yX4_cell yX4_cell, Cond.code yX4_cell cX4_cell 6 (some .long)]
def wsL_law_r25 : List Cond := [Cond.methodLink RL 110 yX5_cell, Cond.instanceMethod yX5_cell, Cond.selects RX5 yX5_cell yX5_cell, Cond.code yX5_cell cX5_cell 4 (some .long), Cond.methodLink RX5 202 yX5_failedLong, Cond.instanceMethod yX5_failedLong, Cond.selects RX5 yX5_failedLong yX5_failedLong, Cond.code yX5_failedLong cX5_failedLong 2 (some .long), Cond.methodLink RL 111 yX4_copy, Cond.instanceMethod yX4_copy, Cond.selects RX4 yX4_copy yX4_copy, Cond.code yX4_copy cX4_copy 8 (some .int), Cond.methodLink RX4 195 arraycopyName, Cond.native arraycopyName, Cond.static arraycopyName, Cond.initialized "java/lang/System", Cond.methodLink RL 114 yX5_copy, Cond.instanceMethod yX5_copy, Cond.selects RX5 yX5_copy yX5_copy, Cond.code yX5_copy cX5_copy 7 (some .int), Cond.methodLink RL 115 yX4_tell, Cond.instanceMethod yX4_tell, Cond.selects RX4 yX4_tell yX4_tell, Cond.code yX4_tell cX4_tell 3 (some .int)]
def wsL_law_r26 : List Cond := [Cond.methodLink RX4 201 yX4_miserTells, Cond.instanceMethod yX4_miserTells, Cond.selects RX4 yX4_miserTells yX4_miserTells, Cond.code yX4_miserTells cX4_miserTells 3 (some .int), Cond.methodLink RX4 210 yX4_leaveInTrace, Cond.instanceMethod yX4_leaveInTrace, Cond.selects RX4 yX4_leaveInTrace yX4_leaveInTrace, Cond.code yX4_leaveInTrace cX4_leaveInTrace 2 none, Cond.fieldLink RX4 213 "LoserDraws" "traceNow" "I", Cond.methodLink RX4 204 yX4_richTells, Cond.instanceMethod yX4_richTells, Cond.selects RX4 yX4_richTells yX4_richTells, Cond.code yX4_richTells cX4_richTells 2 (some .int), Cond.methodLink RX4 207 yX4_citizenTells, Cond.instanceMethod yX4_citizenTells, Cond.selects RX4 yX4_citizenTells yX4_citizenTells, Cond.code yX4_citizenTells cX4_citizenTells 2 (some .int), Cond.methodLink RL 118 yX5_tell, Cond.instanceMethod yX5_tell, Cond.selects RX5 yX5_tell yX5_tell, Cond.code yX5_tell cX5_tell 4 (some .int), Cond.methodLink RX5 208 yX5_traced, Cond.instanceMethod yX5_traced, Cond.selects RX5 yX5_traced yX5_traced]
def wsL_law_r27 : List Cond := [Cond.code yX5_traced cX5_traced 2 none, Cond.fieldLink RX5 205 "LoserDrawsModel" "traceNow" "I", Cond.methodLink RL 119 yX4_call, Cond.instanceMethod yX4_call, Cond.selects RX4 yX4_call yX4_call, Cond.code yX4_call cX4_call 3 (some .int), Cond.methodLink RL 122 yX5_call, Cond.instanceMethod yX5_call, Cond.selects RX5 yX5_call yX5_call, Cond.code yX5_call cX5_call 2 (some .int), Cond.methodLink RL 123 yX4_as, Cond.instanceMethod yX4_as, Cond.selects RX4 yX4_as yX4_as, Cond.code yX4_as cX4_as 4 (some .int), Cond.methodLink RL 126 yX5_as, Cond.instanceMethod yX5_as, Cond.selects RX5 yX5_as yX5_as, Cond.code yX5_as cX5_as 3 (some .int), Cond.methodLink RL 127 yX4_trace, Cond.instanceMethod yX4_trace, Cond.selects RX4 yX4_trace yX4_trace, Cond.code yX4_trace cX4_trace 1 (some .int), Cond.methodLink RL 130 yX5_trace, Cond.instanceMethod yX5_trace]
def wsL_law_r28 : List Cond := [Cond.selects RX5 yX5_trace yX5_trace, Cond.code yX5_trace cX5_trace 1 (some .int), Cond.methodLink RL 131 yX4_fault, Cond.instanceMethod yX4_fault, Cond.selects RX4 yX4_fault yX4_fault, Cond.code yX4_fault cX4_fault 1 (some .int), Cond.methodLink RL 134 yX5_fault, Cond.instanceMethod yX5_fault, Cond.selects RX5 yX5_fault yX5_fault, Cond.code yX5_fault cX5_fault 1 (some .int), Cond.methodLink RL 135 yX4_many, Cond.instanceMethod yX4_many, Cond.selects RX4 yX4_many yX4_many, Cond.code yX4_many cX4_many 2 (some .int), Cond.methodLink RL 138 yX5_many, Cond.instanceMethod yX5_many, Cond.selects RX5 yX5_many yX5_many, Cond.code yX5_many cX5_many 2 (some .int)]
def wsL_law : List Cond := (wsL_law_r1 ++ (wsL_law_r2 ++ (wsL_law_r3 ++ (wsL_law_r4 ++ (wsL_law_r5 ++ (wsL_law_r6 ++ (wsL_law_r7 ++ (wsL_law_r8 ++ (wsL_law_r9 ++ (wsL_law_r10 ++ (wsL_law_r11 ++ (wsL_law_r12 ++ (wsL_law_r13 ++ (wsL_law_r14 ++ (wsL_law_r15 ++ (wsL_law_r16 ++ (wsL_law_r17 ++ (wsL_law_r18 ++ (wsL_law_r19 ++ (wsL_law_r20 ++ (wsL_law_r21 ++ (wsL_law_r22 ++ (wsL_law_r23 ++ (wsL_law_r24 ++ (wsL_law_r25 ++ (wsL_law_r26 ++ (wsL_law_r27 ++ wsL_law_r28))))))))))))))))))))))))))) ++ wsX40 ++ wsX50 ++ wsX10 ++ wsX00 ++ wsX20 ++ ([] : List Cond)
abbrev vwCl : List vw_C := [(RX0, TX0, 4), (RX1, TX1, 7), (RX2, TX2, 4), (RX4, TX4, 10), (RX5, TX5, 24)]
end
section
/-! worlds by a function from places to cells; one context for each method's walk -/
abbrev EE : Type := va_G × (Nat → ClassId)
def nestW : List Cond := [.fieldLinkNest "LoserDraws" 76 "LoserDraws$Citizen" "kind" "I" "LoserDraws", .fieldLinkNest "LoserDraws$Text" 34 "LoserDraws$Citizen" "kind" "I" "LoserDraws", .fieldLinkNest "LoserDraws" 79 "LoserDraws$Citizen" "tickets" "I" "LoserDraws", .fieldLinkNest "LoserDraws$Text" 43 "LoserDraws$Citizen" "tickets" "I" "LoserDraws", .fieldLinkNest "LoserDraws" 82 "LoserDraws$Citizen" "geese" "I" "LoserDraws", .fieldLinkNest "LoserDraws$Text" 46 "LoserDraws$Citizen" "geese" "I" "LoserDraws", .fieldLinkNest "LoserDraws" 85 "LoserDraws$Citizen" "wishes" "Z" "LoserDraws", .fieldLinkNest "LoserDraws$Text" 49 "LoserDraws$Citizen" "wishes" "Z" "LoserDraws", .fieldLinkNest "LoserDraws" 192 "LoserDraws$Row" "cells" "[I" "LoserDraws", .fieldLinkNest "LoserDraws" 216 "LoserDraws$Row" "isThere" "Z" "LoserDraws", .fieldLinkNest "LoserDraws" 189 "LoserDraws$Row" "lane" "I" "LoserDraws", .methodLinkNest "LoserDraws" 29 ⟨"LoserDraws$Drum", "<init>", "()V"⟩ "LoserDraws", .methodLinkNest "LoserDraws" 34 ⟨"LoserDraws$Citizen", "<init>", "()V"⟩ "LoserDraws", .methodLinkNest "LoserDraws" 35 ⟨"LoserDraws$Row", "<init>", "()V"⟩ "LoserDraws", .methodLinkNest "LoserDraws" 179 ⟨"LoserDraws$Row", "holds", "(II)Z"⟩ "LoserDraws", .methodLinkNest "LoserDraws" 59 ⟨"LoserDraws$Text", "firstFault", "(LLoserDraws$Row;II)I"⟩ "LoserDraws", .methodLinkNest "LoserDraws$Text" 9 ⟨"LoserDraws$Row", "at", "(I)I"⟩ "LoserDraws", .methodLinkNest "LoserDraws" 219 ⟨"LoserDraws$Text", "citizensIn", "(I)I"⟩ "LoserDraws", .methodLinkNest "LoserDraws" 186 ⟨"LoserDraws$Row", "at", "(I)I"⟩ "LoserDraws", .methodLinkNest "LoserDraws" 222 ⟨"LoserDraws$Text", "digit", "(I)I"⟩ "LoserDraws", .methodLinkNest "LoserDraws" 225 ⟨"LoserDraws$Text", "tellCitizen", "(LLoserDraws$Row;ILLoserDraws$Citizen;)V"⟩ "LoserDraws", .methodLinkNest "LoserDraws" 89 ⟨"LoserDraws$Citizen", "slips", "()I"⟩ "LoserDraws", .methodLinkNest "LoserDraws$Citizen" 16 ⟨"LoserDraws", "slipsOf", "(II)I"⟩ "LoserDraws", .methodLinkNest "LoserDraws" 232 ⟨"LoserDraws$Row", "has", "(III)Z"⟩ "LoserDraws", .methodLinkNest "LoserDraws" 236 ⟨"LoserDraws$Drum", "empty", "(II)V"⟩ "LoserDraws", .methodLinkNest "LoserDraws" 140 ⟨"LoserDraws$Drum", "setSlips", "(II)V"⟩ "LoserDraws", .methodLinkNest "LoserDraws" 156 ⟨"LoserDraws$Drum", "setWishes", "(IZ)V"⟩ "LoserDraws", .methodLinkNest "LoserDraws" 111 ⟨"LoserDraws$Drum", "passesUnder", "(I)Z"⟩ "LoserDraws", .methodLinkNest "LoserDraws" 119 ⟨"LoserDraws$Drum", "drawsSparing", "(I)J"⟩ "LoserDraws", .methodLinkNest "LoserDraws" 123 ⟨"LoserDraws$Drum", "draws", "()J"⟩ "LoserDraws", .methodLinkNest "LoserDraws" 134 ⟨"LoserDraws$Drum", "drawsLeavingJust", "(I)J"⟩ "LoserDraws", .methodLinkNest "LoserDraws" 137 ⟨"LoserDraws$Drum", "drawsPassing", "()J"⟩ "LoserDraws", .methodLinkNest "LoserDraws" 152 ⟨"LoserDraws$Drum", "passesByHalf", "()Z"⟩ "LoserDraws", .methodLinkNest "LoserDraws" 239 ⟨"LoserDraws$Drum", "canLeaveJust", "(I)Z"⟩ "LoserDraws", .methodLinkNest "LoserDraws" 166 ⟨"LoserDraws$Drum", "setDrawn", "(I)V"⟩ "LoserDraws", .methodLinkNest "LoserDraws" 173 ⟨"LoserDraws$Row", "begin", "(II)V"⟩ "LoserDraws", .methodLinkNest "LoserDraws" 176 ⟨"LoserDraws$Row", "end", "()V"⟩ "LoserDraws", .methodLinkNest "LoserDraws" 183 ⟨"LoserDraws$Row", "set", "(II)V"⟩ "LoserDraws"]
def NE (U : State) : Prop := ∀ w ∈ nestW, va_Nw w U
theorem nestW_on : ∀ w ∈ nestW, w.onTables = true := by decide +kernel
theorem NE.warm {s U : State} (hW : s.WarmedH U.vm) (h : NE s) : NE U := by
  intro w hw
  have h1 := h w hw
  simp only [nestW, List.mem_cons, List.not_mem_nil, or_false] at hw
  repeat' (first | (rcases hw with rfl | hw) | subst hw)
  all_goals first | exact va_Nw.warmF hW h1 | exact va_Nw.warmM hW h1
theorem NE.same {u U : State} (hv : u.vm = U.vm) (h : NE u) : NE U := fun w hw => va_Nw.same (nestW_on w hw) hv (h w hw)
def tyE (E : EE) : List (ClassId × FieldType) := [(E.2 0, .int), (E.2 1, .long), (E.2 2, .object "LoserDraws$Citizen"), (E.2 3, .object "LoserDraws$Row")]
def KE (E : EE) (U : State) : Prop := va_K E.1 vwCl (tyE E) U ∧ NE U
theorem KE.warm {E : EE} {s U : State} (hW : s.WarmedH U.vm) (h : KE E s) : KE E U := ⟨va_K.moved hW.alike h.1, NE.warm hW h.2⟩
theorem KE.calling {E : EE} {a : Array Value} {U : State} {g : JFrame} {mk : MethodId} (h : KE E U) : KE E (U.calling g mk a) := ⟨va_K.moved (u := U) (U := U.calling g mk a) (Vm.Alike.refl U.vm) h.1, NE.same (u := U) (U := U.calling g mk a) rfl h.2⟩
/-- what a method's walk has in hand throughout -/
def cx (Ts : List Cond) (cc : ByteArray) (nL : Nat) (ret : Option FieldType) (own : String) (E : EE) (p : Program) (s : State) (m : MethodId) (args : Array Value) (meth : Method) (c : Code) : Prop :=
  p.tables.exec = Jvm.exec ∧ c.code = cc ∧ meth.sig.returnType = ret ∧ c.maxLocals = nL ∧ s.vm.findClass own = some m.cls ∧ (∀ w ∈ Ts, w.before args s = true) ∧ meth.locks = false ∧ KE E s
abbrev fw : Type := Nat → Option (Nat × va_E)
def fP (E : EE) (w : fw) (H : Heap) : Prop := ∀ (k : Nat) (q : Nat × va_E), w k = some q → va_at E.1 vwCl q H
/-- the places' addresses are apart -/
def fI (w : fw) : Prop := ∀ (i j : Nat) (p q : Nat × va_E), w i = some p → w j = some q → p.1 = q.1 → i = j
def fA (w : fw) : Nat → Prop := fun q => ∃ (k : Nat) (e : va_E), w k = some (q, e)
theorem P1 {D : va_G} {q : Nat × va_E} {H : Heap} (h : va_at D vwCl q H) : va_P D vwCl [q] H := by
  intro k x hk
  cases k with
  | zero => cases hk; exact h
  | succ k => simp at hk
theorem fP.set {E : EE} {w w' : fw} {k a : Nat} {e0 e : va_E} {H H1 : Heap} (h : fP E w H) (hI : fI w) (hk : w k = some (a, e0)) (he : va_at E.1 vwCl (a, e) H1) (oq : ∀ q : Nat, q ≠ a → H1[q]? = H[q]?) (hw : ∀ j, j ≠ k → w' j = w j) (hk2 : w' k = some (a, e)) : fP E w' H1 := by
  intro j q hj
  by_cases hjk : j = k
  · subst hjk
    rw [hk2] at hj
    cases hj
    exact he
  · rw [hw j hjk] at hj
    exact (h j q hj).kept (oq q.1 (fun z => hjk (hI j k q (a, e0) hj hk z)))
theorem fI.set {w w' : fw} {k a : Nat} {e0 e : va_E} (hI : fI w) (hk : w k = some (a, e0)) (hw : ∀ j, j ≠ k → w' j = w j) (hk2 : w' k = some (a, e)) : fI w' := by
  have key : ∀ (j : Nat) (q : Nat × va_E), w' j = some q → ∃ q0, w j = some q0 ∧ q0.1 = q.1 := by
    intro j q hj
    by_cases hjk : j = k
    · subst hjk
      rw [hk2] at hj
      cases hj
      exact ⟨_, hk, rfl⟩
    · rw [hw j hjk] at hj
      exact ⟨q, hj, rfl⟩
  intro i j x y hi hj hxy
  obtain ⟨x0, h1, h2⟩ := key i x hi
  obtain ⟨y0, h3, h4⟩ := key j y hj
  exact hI i j x0 y0 h1 h3 (h2.trans (hxy.trans h4.symm))
/-- contracts: a method that changes nothing, and one that may change the cells in A -/
def roI (l : Launch) (y : MethodName) (ws : List Cond) (rm : Room) (E : EE) (av : List Value) (PH : Heap → Prop) (out : Int32) : Prop := Met l y ws rm (va_Pc av (fun U => PH U.heap ∧ KE E U)) (vp_Si (fun r => r = out)) 0 0 (fun _ => False)
def roL (l : Launch) (y : MethodName) (ws : List Cond) (rm : Room) (E : EE) (av : List Value) (PH : Heap → Prop) (out : Int64) : Prop := Met l y ws rm (va_Pc av (fun U => PH U.heap ∧ KE E U)) (vp_Sl (fun r => r = out)) 0 0 (fun _ => False)
def roQ (l : Launch) (y : MethodName) (ws : List Cond) (rm : Room) (E : EE) (av : List Value) (PH : Heap → Prop) (out : Option Nat) : Prop := Met l y ws rm (va_Pc av (fun U => PH U.heap ∧ KE E U)) (va_Sq (fun r => r = out)) 0 0 (fun _ => False)
def muI (l : Launch) (y : MethodName) (ws : List Cond) (rm : Room) (E : EE) (av : List Value) (A : Nat → Prop) (PH QH : Heap → Prop) (out : Int32) : Prop := Met l y ws rm (va_Pc av (fun U => PH U.heap ∧ KE E U)) (va_Qi (fun r (_ : Unit) => r = out) (fun _ t => QH t.heap) A) 0 0 A
def muL (l : Launch) (y : MethodName) (ws : List Cond) (rm : Room) (E : EE) (av : List Value) (A : Nat → Prop) (PH QH : Heap → Prop) (out : Int64) : Prop := Met l y ws rm (va_Pc av (fun U => PH U.heap ∧ KE E U)) (va_Ql (fun r (_ : Unit) => r = out) (fun _ t => QH t.heap) A) 0 0 A
def muV (l : Launch) (y : MethodName) (ws : List Cond) (rm : Room) (E : EE) (av : List Value) (A : Nat → Prop) (PH QH : Heap → Prop) : Prop := Met l y ws rm (va_Pc av (fun U => PH U.heap ∧ KE E U)) (va_Qv (fun (_ : Unit) => True) (fun _ t => QH t.heap) A) 0 0 A
theorem blind {E : EE} {av : List Value} {PH : Heap → Prop} : FrameBlind (va_Pc av (fun U => PH U.heap ∧ KE E U)) := fun _ _ _ _ q => ⟨q.1, q.2.1, q.2.2.calling⟩
theorem gd {α : Type} {c : Prop} [Decidable c] {k : Option α} {o : α} (h : (if c then none else k) = some o) : ¬ c ∧ k = some o := by
  by_cases hc : c
  · rw [if_pos hc] at h; cases h
  · rw [if_neg hc] at h; exact ⟨hc, h⟩
theorem bd {α β : Type} {x : Option α} {k : α → Option β} {o : β} (h : x.bind k = some o) : ∃ a, x = some a ∧ k a = some o := Option.bind_eq_some_iff.mp h
section RO
variable {p : Program} {l : Launch} {e : Env} {R : Room} {s : State} {m : MethodId} {args : Array Value} {below : List Frame} {meth : Method} {c : Code} {H : Heap} {locs : List Loc} {cells slots : Nat} {Q : State → Prop}
variable {cc : ByteArray} {pc nL : Nat} {ls : Array Slot} {rest : List Value} {E : EE} {A : Nat → Prop} {Ts : List Cond} {ret : Option FieldType} {own : String}
theorem r_get (C0 : cx Ts cc nL ret own E p s m args meth c) {C : String} {T : u_T} {N ci a : Nat} {fs : List Value} (he : va_at E.1 vwCl (a, .inr (ci, fs)) H) (hin : ∀ w ∈ u_ws C T N, w ∈ Ts) (hc : vwCl[ci]? = some (C, T, N)) (k : Nat) (hk : k < N) {index : Nat} (hlink : Cond.fieldLink own index (T k).1 (T k).2.1 (T k).2.2.1 ∈ Ts) {v : Value} (hv : fs[k]? = some v) (hdg : decode cc pc = .ok (.getfield index, 3))
    (kk : W p l e R s m args below meth c H locs cells slots Q (F0 m (pc + 3) ls (v :: rest))) : W p l e R s m args below meth c H locs cells slots Q (F0 m pc ls (.ref a :: rest)) := by
  obtain ⟨hx, hb, hr, hml, hown, hts, hlk, hK⟩ := C0
  exact va_get hx hb hts hin hown hK.1 (P1 he) 0 rfl hc k hk (hts _ hlink) (fun _ h => h) hv hdg kk
theorem r_getN (C0 : cx Ts cc nL ret own E p s m args meth c) {C : String} {T : u_T} {N ci a : Nat} {fs : List Value} (he : va_at E.1 vwCl (a, .inr (ci, fs)) H) (hin : ∀ w ∈ u_ws C T N, w ∈ Ts) (hc : vwCl[ci]? = some (C, T, N)) (k : Nat) (hk : k < N) {index : Nat} (hlink : Cond.fieldLinkNest own index (T k).1 (T k).2.1 (T k).2.2.1 "LoserDraws" ∈ nestW) {v : Value} (hv : fs[k]? = some v) (hdg : decode cc pc = .ok (.getfield index, 3))
    (kk : W p l e R s m args below meth c H locs cells slots Q (F0 m (pc + 3) ls (v :: rest))) : W p l e R s m args below meth c H locs cells slots Q (F0 m pc ls (.ref a :: rest)) := by
  obtain ⟨hx, hb, hr, hml, hown, hts, hlk, hK⟩ := C0
  exact va_getN hx hb hts hin hown hK.1 (P1 he) 0 rfl hc k hk (va_Nw.use (nestW_on _ hlink) (hK.2 _ hlink)) (fun _ h => h) hv hdg kk
theorem r_iald (C0 : cx Ts cc nL ret own E p s m args meth c) {a n : Nat} {f : Nat → Int32} (he : va_at E.1 vwCl (a, .inl (E.2 0, n, .inl f)) H) {i : Int32} (hin : ¬ (i < 0 ∨ n ≤ i.toNatClampNeg)) (hdg : decode cc pc = .ok (.iaload, 1))
    (kk : W p l e R s m args below meth c H locs cells slots Q (F0 m (pc + 1) ls (.int (f i.toNatClampNeg) :: rest))) : W p l e R s m args below meth c H locs cells slots Q (F0 m pc ls (.int i :: .ref a :: rest)) := by
  obtain ⟨hx, hb, hr, hml, hown, hts, hlk, hK⟩ := C0
  exact va_iald hx hb hK.1 (P1 he) 0 0 rfl rfl hin hdg kk
theorem r_lald (C0 : cx Ts cc nL ret own E p s m args meth c) {a n : Nat} {f : Nat → Int64} (he : va_at E.1 vwCl (a, .inl (E.2 1, n, .inr (.inl f))) H) {i : Int32} (hin : ¬ (i < 0 ∨ n ≤ i.toNatClampNeg)) (hdg : decode cc pc = .ok (.laload, 1))
    (kk : W p l e R s m args below meth c H locs cells slots Q (F0 m (pc + 1) ls (.long (f i.toNatClampNeg) :: rest))) : W p l e R s m args below meth c H locs cells slots Q (F0 m pc ls (.int i :: .ref a :: rest)) := by
  obtain ⟨hx, hb, hr, hml, hown, hts, hlk, hK⟩ := C0
  exact va_lald hx hb hK.1 (P1 he) 0 1 rfl rfl hin hdg kk
theorem r_aldC (C0 : cx Ts cc nL ret own E p s m args meth c) {a n : Nat} {f : Nat → Option Nat} (he : va_at E.1 vwCl (a, .inl (E.2 2, n, .inr (.inr (.inr (.inr f))))) H) {i : Int32} (hin : ¬ (i < 0 ∨ n ≤ i.toNatClampNeg)) (hdg : decode cc pc = .ok (.aaload, 1))
    (kk : W p l e R s m args below meth c H locs cells slots Q (F0 m (pc + 1) ls (va_rf (f i.toNatClampNeg) :: rest))) : W p l e R s m args below meth c H locs cells slots Q (F0 m pc ls (.int i :: .ref a :: rest)) := by
  obtain ⟨hx, hb, hr, hml, hown, hts, hlk, hK⟩ := C0
  exact va_aldq hx hb hK.1 (P1 he) 0 2 rfl rfl hin hdg kk
theorem r_aldR (C0 : cx Ts cc nL ret own E p s m args meth c) {a n : Nat} {f : Nat → Option Nat} (he : va_at E.1 vwCl (a, .inl (E.2 3, n, .inr (.inr (.inr (.inr f))))) H) {i : Int32} (hin : ¬ (i < 0 ∨ n ≤ i.toNatClampNeg)) (hdg : decode cc pc = .ok (.aaload, 1))
    (kk : W p l e R s m args below meth c H locs cells slots Q (F0 m (pc + 1) ls (va_rf (f i.toNatClampNeg) :: rest))) : W p l e R s m args below meth c H locs cells slots Q (F0 m pc ls (.int i :: .ref a :: rest)) := by
  obtain ⟨hx, hb, hr, hml, hown, hts, hlk, hK⟩ := C0
  exact va_aldq hx hb hK.1 (P1 he) 0 3 rfl rfl hin hdg kk
theorem r_alen (C0 : cx Ts cc nL ret own E p s m args meth c) {a t0 : Nat} {cA : ClassId} {ty : FieldType} {x : vp_A} (he : va_at E.1 vwCl (a, .inl (cA, x)) H) (ht : (tyE E)[t0]? = some (cA, ty)) (hdg : decode cc pc = .ok (.arraylength, 1))
    (kk : W p l e R s m args below meth c H locs cells slots Q (F0 m (pc + 1) ls (.int (Int32.ofNat x.1) :: rest))) : W p l e R s m args below meth c H locs cells slots Q (F0 m pc ls (.ref a :: rest)) := by
  obtain ⟨hx, hb, hr, hml, hown, hts, hlk, hK⟩ := C0
  exact va_alen hx hb hK.1 (P1 he) 0 t0 rfl ht rfl hdg kk
theorem f_put (C0 : cx Ts cc nL ret own E p s m args meth c) {C : String} {T : u_T} {N ci a : Nat} {fs : List Value} {w w' : fw} (hP : fP E w H) (hI : fI w) (hS : va_S A s.heap H locs) (j : Nat) (he : w j = some (a, .inr (ci, fs))) (hAa : A a) (hin : ∀ w ∈ u_ws C T N, w ∈ Ts) (hc : vwCl[ci]? = some (C, T, N)) (ty0 : Nat → FieldType) (hty : ∀ k, k < N → parseFieldDescriptor (T k).2.2.1 = some (ty0 k)) (hnm : ∀ a, a < N → ∀ b, b < N → a ≠ b → (T a).2.1 ≠ (T b).2.1) (k : Nat) (hk : k < N) {index : Nat} (hlink : Cond.fieldLink own index (T k).1 (T k).2.1 (T k).2.2.1 ∈ Ts) (hfin : (T k).2.2.2 = false) {ty : FieldType} {v : Value} (hd : parseFieldDescriptor (T k).2.2.1 = some ty) (hn : narrow ty v = v) (hfit : fits ty v = true) (hl : k < fs.length) (hw : ∀ i, i ≠ j → w' i = w i) (hw2 : w' j = some (a, .inr (ci, fs.set k v)))
    (hdg : decode cc pc = .ok (.putfield index, 3)) (kk : ∀ (H1 : Heap) (locs1 : List Loc), fP E w' H1 → va_S A s.heap H1 locs1 → W p l e R s m args below meth c H1 locs1 cells slots Q (F0 m (pc + 3) ls rest)) : W p l e R s m args below meth c H locs cells slots Q (F0 m pc ls (v :: .ref a :: rest)) := by
  obtain ⟨hx, hb, hr, hml, hown, hts, hlk, hK⟩ := C0
  have hap := va_apart (own := own) hts hin ty0 hty hnm hK.1 hc
  obtain ⟨r, h1, cell, q1, q2, q3, q4⟩ := hP j _ he
  have hr : r = (C, T, N) := Option.some.inj (h1.symm.trans hc)
  subst hr
  obtain ⟨hS1, hfc, kC, hkC, hkind⟩ := hK.1.1 ci _ hc
  obtain ⟨cf, kf, fi, f, hi, hsl⟩ := hS1 k hk
  have hlay := hts _ (hin _ (u_in_lay hk))
  unfold u_lay at hlay
  rw [if_neg (by rw [hfin]; decide)] at hlay
  have hst := (u_facts hfc hkC (u_lays hts hin hk) hi).1
  have h6 := u_store hfc hkC hkind hlay hi hd hn hfit
  refine W.putK hx hb (f := f) ⟨hown, hts _ hlink, ⟨_, _, _, hi⟩, hst⟩ (by rw [q2]; exact h6) q1 q3 (by rw [hsl]; exact k2_hasslot (q4 k hk)) rfl rfl hdg fun H' e1 e2 e3 => ?_
  rw [hsl] at e1 ⊢
  exact kk H' _ (fP.set (e := .inr (ci, fs.set k v)) hP hI he ⟨_, hc, t_OB.to (V := updV (vp_V fs) k v) ⟨_, e1, q2, q3, t_set q4 hap hk v⟩ (fun j _ => vp_updV_set hl v j)⟩ e3 hw hw2) (hS.put e2 e3 hAa)
theorem f_iast (C0 : cx Ts cc nL ret own E p s m args meth c) {a n : Nat} {f : Nat → Int32} {w w' : fw} (hP : fP E w H) (hI : fI w) (hS : va_S A s.heap H locs) (j : Nat) (he : w j = some (a, .inl (E.2 0, n, .inl f))) (hAa : A a) {i x : Int32} (hin : ¬ (i < 0 ∨ n ≤ i.toNatClampNeg)) (hw : ∀ i, i ≠ j → w' i = w i) (hw2 : w' j = some (a, .inl (E.2 0, n, .inl (upd f i.toNatClampNeg x)))) (hdg : decode cc pc = .ok (.iastore, 1))
    (kk : ∀ (H1 : Heap) (locs1 : List Loc), fP E w' H1 → va_S A s.heap H1 locs1 → W p l e R s m args below meth c H1 locs1 cells slots Q (F0 m (pc + 1) ls rest)) : W p l e R s m args below meth c H locs cells slots Q (F0 m pc ls (.int x :: .int i :: .ref a :: rest)) := by
  obtain ⟨hx, hb, hr, hml, hown, hts, hlk, hK⟩ := C0
  refine W.iast hx hb (hP j _ he) ((hK.1.2 0 _ rfl).1 n (fun j => .int (f j))) (fun q => by cases q) (by show ¬ (i < 0 ∨ (arrV _ _ _).slots.size ≤ _); rw [arrV_size]; exact hin) rfl rfl hdg fun H1 e1 z oq => ?_
  refine kk H1 _ (hP.set hI he ?_ oq hw hw2) (hS.put z oq hAa)
  show H1[a]? = some (vp_cell _ _)
  rw [e1, vp_cell_i, vp_cell_i, arrV_store]
  congr 2
  funext q
  by_cases hq : q = i.toNatClampNeg
  · subst hq
    simp [updV, upd]
  · simp [updV, upd, hq]
theorem f_last (C0 : cx Ts cc nL ret own E p s m args meth c) {a n : Nat} {f : Nat → Int64} {w w' : fw} (hP : fP E w H) (hI : fI w) (hS : va_S A s.heap H locs) (j : Nat) (he : w j = some (a, .inl (E.2 1, n, .inr (.inl f)))) (hAa : A a) {i : Int32} {x : Int64} (hin : ¬ (i < 0 ∨ n ≤ i.toNatClampNeg)) (hw : ∀ i, i ≠ j → w' i = w i) (hw2 : w' j = some (a, .inl (E.2 1, n, .inr (.inl (vp_updL f i.toNatClampNeg x))))) (hdg : decode cc pc = .ok (.lastore, 1))
    (kk : ∀ (H1 : Heap) (locs1 : List Loc), fP E w' H1 → va_S A s.heap H1 locs1 → W p l e R s m args below meth c H1 locs1 cells slots Q (F0 m (pc + 1) ls rest)) : W p l e R s m args below meth c H locs cells slots Q (F0 m pc ls (.long x :: .int i :: .ref a :: rest)) := by
  obtain ⟨hx, hb, hr, hml, hown, hts, hlk, hK⟩ := C0
  refine W.last hx hb (hP j _ he) ((hK.1.2 1 _ rfl).1 n (fun j => .long (f j))) (fun q => by cases q) (by show ¬ (i < 0 ∨ (arrV _ _ _).slots.size ≤ _); rw [arrV_size]; exact hin) rfl rfl hdg fun H1 e1 z oq => ?_
  refine kk H1 _ (hP.set hI he ?_ oq hw hw2) (hS.put z oq hAa)
  show H1[a]? = some (vp_cell _ _)
  rw [e1, vp_cell_l, vp_cell_l, arrV_store]
  congr 2
  funext q
  by_cases hq : q = i.toNatClampNeg
  · subst hq
    simp [updV, vp_updL]
  · simp [updV, vp_updL, hq]
end RO
section CALLS
variable {p : Program} {l : Launch} {e : Env} {R : Room} {s : State} {m : MethodId} {args : Array Value} {below : List Frame} {meth : Method} {c : Code} {H : Heap} {locs : List Loc} {cells slots : Nat} {Q : State → Prop}
variable {cc : ByteArray} {pc nL : Nat} {ls : Array Slot} {rest st0 : List Value} {E : EE} {Ts : List Cond} {ret : Option FieldType} {own : String}
variable {y : MethodName} {ws ws' : List Cond} {bytes : ByteArray} {maxL index n mc ms : Nat} {ret' : Option FieldType} {rm : Room} {PH : Heap → Prop} {Qc : Array Value → State → Outcome → State → Prop} {free : Addr → Prop} {b : Nat} {As : List Value}
def fits_in (rm : Room) (mc ms maxL : Nat) (R : Room) (cells slots : Nat) : Bool := decide (rm.cells = mc) && decide (rm.slots = ms) && decide (rm.frames + 1 ≤ R.frames) && decide (8 + (maxL + 11) + rm.locals ≤ R.locals) && decide (cells + mc ≤ R.cells) && decide (slots + ms ≤ R.slots)
theorem fits_in_ok (h : fits_in rm mc ms maxL R cells slots = true) : rm.cells = mc ∧ rm.slots = ms ∧ (rm.frames + 1 ≤ R.frames ∧ 8 + (maxL + 11) + rm.locals ≤ R.locals) ∧ (cells + mc ≤ R.cells ∧ slots + ms ≤ R.slots) := by
  simp only [fits_in, Bool.and_eq_true, decide_eq_true_eq] at h
  obtain ⟨⟨⟨⟨⟨h1, h2⟩, h3⟩, h4⟩, h5⟩, h6⟩ := h
  exact ⟨h1, h2, ⟨h3, h4⟩, h5, h6⟩
theorem recv9 {C : String} {T : u_T} {N ci : Nat} {fs : List Value} (hK : KE E s) (he : va_at E.1 vwCl (b, .inr (ci, fs)) H) (hc : vwCl[ci]? = some (C, T, N)) : ∃ cell : Cell, H[b]? = some cell ∧ cell.vm.isStatics = false ∧ s.vm.findClass C = some cell.cls := va_recv hK.1 (P1 he) (ci := ci) (q0 := 0) hc rfl
theorem pay (hC : KE E s) (hPH : PH H) {av : List Value} : ∀ U : State, U.heap = H → s.WarmedH U.vm → va_Pc av (fun U => PH U.heap ∧ KE E U) av.toArray U := fun U hU hW => ⟨rfl, by rw [hU]; exact hPH, hC.warm hW⟩
theorem run_V (C0 : cx Ts cc nL ret own E p s m args meth c) (hM : Met l y ws rm (va_Pc (.ref b :: As) (fun U => PH U.heap ∧ KE E U)) Qc mc ms free) (hg : GoodIn Ts (wsV own index y.cls y ws)) (hw : ws = Cond.code y bytes maxL ret' :: ws') (hrm : fits_in rm mc ms maxL R cells slots = true) (hd : y.cls ≠ "java/lang/invoke/MethodHandle" ∧ y.cls ≠ "java/lang/invoke/VarHandle" ∧ (parseMethodDescriptor y.desc).map (fun d => d.parameters.length) = some n) {C : String} {T : u_T} {N ci : Nat} {fs : List Value} (he : va_at E.1 vwCl (b, .inr (ci, fs)) H) (hc : vwCl[ci]? = some (C, T, N)) (hC : y.cls = C) (hPH : PH H) (hls : ls.size = nL) (hn : As.length = n) (hst : st0 = As.reverse ++ .ref b :: rest) (hroom : (rest.map fun v => v.category).sum ≤ 8) (hdg : decode cc pc = .ok (.invokevirtual index, 3)) :
    va_Run p l e R s m args below meth c H locs cells slots mc ms (F0 m pc ls st0) rest (Qc (Value.ref b :: As).toArray) free := by
  obtain ⟨hx, hb, hr, hml, hown, hts, hlk, hK⟩ := C0
  obtain ⟨h1, h2, h3, h4⟩ := fits_in_ok hrm
  exact va_runV ⟨hx, hb, hml, hown, hts⟩ hM (cwV n hts hg hw h1 h2 ⟨rfl, hd⟩ h3) ⟨blind, by rw [hC]; exact recv9 hK he hc, pay hK hPH⟩ rfl hn hls hst (lv_room hroom) hdg h4
theorem run_S (C0 : cx Ts cc nL ret own E p s m args meth c) (hM : Met l y ws rm (va_Pc As (fun U => PH U.heap ∧ KE E U)) Qc mc ms free) (hg : GoodIn Ts (va_wsS own index y ws)) (hw : ws = Cond.code y bytes maxL ret' :: ws') (hrm : fits_in rm mc ms maxL R cells slots = true) (hd : y.cls ≠ "java/lang/invoke/MethodHandle" ∧ y.cls ≠ "java/lang/invoke/VarHandle" ∧ (parseMethodDescriptor y.desc).map (fun d => d.parameters.length) = some n) (hPH : PH H) (hls : ls.size = nL) (hn : As.length = n) (hst : st0 = As.reverse ++ rest) (hroom : (rest.map fun v => v.category).sum ≤ 8) (hdg : decode cc pc = .ok (.invokestatic index, 3)) :
    va_Run p l e R s m args below meth c H locs cells slots mc ms (F0 m pc ls st0) rest (Qc As.toArray) free := by
  obtain ⟨hx, hb, hr, hml, hown, hts, hlk, hK⟩ := C0
  obtain ⟨h1, h2, h3, h4⟩ := fits_in_ok hrm
  exact va_runS ⟨hx, hb, hml, hown, hts⟩ hM (va_cwS n hts hg hw h1 h2 hd h3) ⟨blind, pay hK hPH⟩ rfl hn hls hst (lv_room hroom) hdg h4
theorem run_VN (C0 : cx Ts cc nL ret own E p s m args meth c) (hM : Met l y ws rm (va_Pc (.ref b :: As) (fun U => PH U.heap ∧ KE E U)) Qc mc ms free) (hg : GoodIn Ts ws) (hw : ws = Cond.code y bytes maxL ret' :: ws') (hnest : Cond.methodLinkNest own index y "LoserDraws" ∈ nestW) (hini : Cond.initialized y.cls ∈ Ts) (hins : Cond.instanceMethod y ∈ Ts) (hsel : Cond.selects y.cls y y ∈ Ts) (hrm : fits_in rm mc ms maxL R cells slots = true) (hd : y.cls ≠ "java/lang/invoke/MethodHandle" ∧ y.cls ≠ "java/lang/invoke/VarHandle" ∧ (parseMethodDescriptor y.desc).map (fun d => d.parameters.length) = some n) {C : String} {T : u_T} {N ci : Nat} {fs : List Value} (he : va_at E.1 vwCl (b, .inr (ci, fs)) H) (hc : vwCl[ci]? = some (C, T, N)) (hC : y.cls = C) (hPH : PH H) (hls : ls.size = nL) (hn : As.length = n) (hst : st0 = As.reverse ++ .ref b :: rest) (hroom : (rest.map fun v => v.category).sum ≤ 8) (hdg : decode cc pc = .ok (.invokevirtual index, 3)) :
    va_Run p l e R s m args below meth c H locs cells slots mc ms (F0 m pc ls st0) rest (Qc (Value.ref b :: As).toArray) free := by
  obtain ⟨hx, hb, hr, hml, hown, hts, hlk, hK⟩ := C0
  obtain ⟨h1, h2, h3, h4⟩ := fits_in_ok hrm
  exact va_runVN (C := y.cls) ⟨hx, hb, hml, hown, hts⟩ hM ⟨va_cnB n hts hg hw h1 h2 (hK.2 _ hnest) (hts _ hini) hd h3, hts _ hins, hts _ hsel⟩ ⟨blind, by rw [hC]; exact recv9 hK he hc, pay hK hPH⟩ rfl hn hls hst (lv_room hroom) hdg h4
theorem run_SN (C0 : cx Ts cc nL ret own E p s m args meth c) (hM : Met l y ws rm (va_Pc As (fun U => PH U.heap ∧ KE E U)) Qc mc ms free) (hg : GoodIn Ts ws) (hw : ws = Cond.code y bytes maxL ret' :: ws') (hnest : Cond.methodLinkNest own index y "LoserDraws" ∈ nestW) (hini : Cond.initialized y.cls ∈ Ts) (hsta : Cond.static y ∈ Ts) (hrm : fits_in rm mc ms maxL R cells slots = true) (hd : y.cls ≠ "java/lang/invoke/MethodHandle" ∧ y.cls ≠ "java/lang/invoke/VarHandle" ∧ (parseMethodDescriptor y.desc).map (fun d => d.parameters.length) = some n) (hPH : PH H) (hls : ls.size = nL) (hn : As.length = n) (hst : st0 = As.reverse ++ rest) (hroom : (rest.map fun v => v.category).sum ≤ 8) (hdg : decode cc pc = .ok (.invokestatic index, 3)) :
    va_Run p l e R s m args below meth c H locs cells slots mc ms (F0 m pc ls st0) rest (Qc As.toArray) free := by
  obtain ⟨hx, hb, hr, hml, hown, hts, hlk, hK⟩ := C0
  obtain ⟨h1, h2, h3, h4⟩ := fits_in_ok hrm
  exact va_runSN ⟨hx, hb, hml, hown, hts⟩ hM ⟨va_cnB n hts hg hw h1 h2 (hK.2 _ hnest) (hts _ hini) hd h3, hts _ hsta, trivial⟩ ⟨blind, pay hK hPH⟩ rfl hn hls hst (lv_room hroom) hdg h4
theorem k_roI {out : Int32} {a : Array Value} (hr : va_Run p l e R s m args below meth c H locs cells slots 0 0 (F0 m pc ls st0) rest (vp_Si (fun r => r = out) a) (fun _ => False)) (kk : W p l e R s m args below meth c H locs cells slots Q (F0 m (pc + 3) ls (.int out :: rest))) : W p l e R s m args below meth c H locs cells slots Q (F0 m pc ls st0) := vp_callSi hr.run (fun r h => by rw [h]; exact kk)
theorem k_roL {out : Int64} {a : Array Value} (hr : va_Run p l e R s m args below meth c H locs cells slots 0 0 (F0 m pc ls st0) rest (vp_Sl (fun r => r = out) a) (fun _ => False)) (kk : W p l e R s m args below meth c H locs cells slots Q (F0 m (pc + 3) ls (.long out :: rest))) : W p l e R s m args below meth c H locs cells slots Q (F0 m pc ls st0) := vp_callSl hr.run (fun r h => by rw [h]; exact kk)
theorem k_roQ {out : Option Nat} {a : Array Value} (hr : va_Run p l e R s m args below meth c H locs cells slots 0 0 (F0 m pc ls st0) rest (va_Sq (fun r => r = out) a) (fun _ => False)) (kk : W p l e R s m args below meth c H locs cells slots Q (F0 m (pc + 3) ls (va_rf out :: rest))) : W p l e R s m args below meth c H locs cells slots Q (F0 m pc ls st0) := va_csq hr.run (fun r h => by rw [h]; exact kk)
variable {A0 A1 : Nat → Prop} {QH : Heap → Prop}
theorem k_muI {out : Int32} {a : Array Value} (hr : va_Run p l e R s m args below meth c H locs cells slots 0 0 (F0 m pc ls st0) rest (va_Qi (fun r (_ : Unit) => r = out) (fun _ t => QH t.heap) A1 a) A1) (hS : va_S A0 s.heap H locs) (hA : ∀ q, A1 q → A0 q) (kk : ∀ (H1 : Heap) (locs1 : List Loc), QH H1 → (∀ q : Nat, q < H.size → ¬ A1 q → H1[q]? = H[q]?) → va_S A0 s.heap H1 locs1 → W p l e R s m args below meth c H1 locs1 cells slots Q (F0 m (pc + 3) ls (.int out :: rest))) : W p l e R s m args below meth c H locs cells slots Q (F0 m pc ls st0) :=
  va_calli hr hS (fun q _ h => hA q h) hA (fun r u t H1 locs1 ht hvm h1 h2 hz hk hS1 => by rw [h1]; exact kk H1 locs1 (by rw [ht] at h2; exact h2) hk hS1)
theorem k_muL {out : Int64} {a : Array Value} (hr : va_Run p l e R s m args below meth c H locs cells slots 0 0 (F0 m pc ls st0) rest (va_Ql (fun r (_ : Unit) => r = out) (fun _ t => QH t.heap) A1 a) A1) (hS : va_S A0 s.heap H locs) (hA : ∀ q, A1 q → A0 q) (kk : ∀ (H1 : Heap) (locs1 : List Loc), QH H1 → (∀ q : Nat, q < H.size → ¬ A1 q → H1[q]? = H[q]?) → va_S A0 s.heap H1 locs1 → W p l e R s m args below meth c H1 locs1 cells slots Q (F0 m (pc + 3) ls (.long out :: rest))) : W p l e R s m args below meth c H locs cells slots Q (F0 m pc ls st0) :=
  va_calll hr hS (fun q _ h => hA q h) hA (fun r u t H1 locs1 ht hvm h1 h2 hz hk hS1 => by rw [h1]; exact kk H1 locs1 (by rw [ht] at h2; exact h2) hk hS1)
theorem k_muV {a : Array Value} (hr : va_Run p l e R s m args below meth c H locs cells slots 0 0 (F0 m pc ls st0) rest (va_Qv (fun (_ : Unit) => True) (fun _ t => QH t.heap) A1 a) A1) (hS : va_S A0 s.heap H locs) (hA : ∀ q, A1 q → A0 q) (kk : ∀ (H1 : Heap) (locs1 : List Loc), QH H1 → (∀ q : Nat, q < H.size → ¬ A1 q → H1[q]? = H[q]?) → va_S A0 s.heap H1 locs1 → W p l e R s m args below meth c H1 locs1 cells slots Q (F0 m (pc + 3) ls rest)) : W p l e R s m args below meth c H locs cells slots Q (F0 m pc ls st0) :=
  va_callv hr hS (fun q _ h => hA q h) hA (fun u t H1 locs1 ht hvm h1 h2 hz hk hS1 => kk H1 locs1 (by rw [ht] at h2; exact h2) hk hS1)
theorem k_max (C0 : cx Ts cc nL ret own E p s m args meth c) (hls : ls.size = nL) (h1 : Cond.methodLink own index Lib.Math.max.name ∈ Ts) (h2 : Cond.static Lib.Math.max.name ∈ Ts) (h3 : Cond.initialized "java/lang/Math" ∈ Ts) (h4 : Cond.code Lib.Math.max.name Lib.Math.max.code 2 (some .int) ∈ Ts) (hf : 1 ≤ R.frames) (hlo : (rest.map fun v => v.category).sum + 13 ≤ R.locals) (hc : cells ≤ R.cells) (hs : slots ≤ R.slots) {x z : Int32} (hdg : decode cc pc = .ok (.invokestatic index, 3)) (kk : W p l e R s m args below meth c H locs cells slots Q (F0 m (pc + 3) ls (.int (if x < z then z else x) :: rest))) : W p l e R s m args below meth c H locs cells slots Q (F0 m pc ls (.int z :: .int x :: rest)) := by
  obtain ⟨hx, hb, hr, hml, hown, hts, hlk, hK⟩ := C0
  exact va_mmax hx hb (hml.trans hls.symm) hown (hts _ h1) (hts _ h2) (hts _ h3) (hts _ h4) hf hlo hc hs hdg kk
theorem k_min (C0 : cx Ts cc nL ret own E p s m args meth c) (hls : ls.size = nL) (h1 : Cond.methodLink own index Lib.Math.min.name ∈ Ts) (h2 : Cond.static Lib.Math.min.name ∈ Ts) (h3 : Cond.initialized "java/lang/Math" ∈ Ts) (h4 : Cond.code Lib.Math.min.name Lib.Math.min.code 2 (some .int) ∈ Ts) (hf : 1 ≤ R.frames) (hlo : (rest.map fun v => v.category).sum + 13 ≤ R.locals) (hc : cells ≤ R.cells) (hs : slots ≤ R.slots) {x z : Int32} (hdg : decode cc pc = .ok (.invokestatic index, 3)) (kk : W p l e R s m args below meth c H locs cells slots Q (F0 m (pc + 3) ls (.int (if z < x then z else x) :: rest))) : W p l e R s m args below meth c H locs cells slots Q (F0 m pc ls (.int z :: .int x :: rest)) := by
  obtain ⟨hx, hb, hr, hml, hown, hts, hlk, hK⟩ := C0
  exact va_mmin hx hb (hml.trans hls.symm) hown (hts _ h1) (hts _ h2) (hts _ h3) (hts _ h4) hf hlo hc hs hdg kk
theorem z_nar {v : Int32} (h : v &&& 1 = v) : narrow .boolean (.int v) = .int v := congrArg Value.int h
theorem e_roI (C0 : cx Ts cc nL (some .int) own E p s m args meth c) {v out : Int32} (hf : some v = some out) (hdg : decode cc pc = .ok (.ireturn, 1)) : W p l e R s m args below meth c s.heap [] 0 0 (MQ below (vp_Si (fun r => r = out)) args s 0 0 (fun _ => False)) (F0 m pc ls [.int v]) := by
  obtain ⟨hx, hb, hr, hml, hown, hts, hlk, hK⟩ := C0
  exact W.iret hx hb hr (fun t ht hW => ⟨v, rfl, Option.some.inj hf, ht⟩) (fun _ h => by cases h) hdg
theorem e_roZ (C0 : cx Ts cc nL (some .boolean) own E p s m args meth c) {v out : Int32} (hf : (if ¬ (v &&& 1 = v) then none else some v) = some out) (hdg : decode cc pc = .ok (.ireturn, 1)) : W p l e R s m args below meth c s.heap [] 0 0 (MQ below (vp_Si (fun r => r = out)) args s 0 0 (fun _ => False)) (F0 m pc ls [.int v]) := by
  obtain ⟨hx, hb, hr, hml, hown, hts, hlk, hK⟩ := C0
  obtain ⟨h1, h2⟩ := gd hf
  exact W.zret hx hb hr (z_nar (Decidable.of_not_not h1)) (fun t ht hW => ⟨v, rfl, Option.some.inj h2, ht⟩) (fun _ h => by cases h) hdg
theorem e_roL (C0 : cx Ts cc nL (some .long) own E p s m args meth c) {v out : Int64} (hf : some v = some out) (hdg : decode cc pc = .ok (.lreturn, 1)) : W p l e R s m args below meth c s.heap [] 0 0 (MQ below (vp_Sl (fun r => r = out)) args s 0 0 (fun _ => False)) (F0 m pc ls [.long v]) := by
  obtain ⟨hx, hb, hr, hml, hown, hts, hlk, hK⟩ := C0
  exact W.lret hx hb hr (fun t ht hW => ⟨v, rfl, Option.some.inj hf, ht⟩) (fun _ h => by cases h) hdg
theorem e_muI (C0 : cx Ts cc nL (some .int) own E p s m args meth c) {v out : Int32} (hS : va_S A0 s.heap H locs) (hv : v = out) (hq : QH H) (hdg : decode cc pc = .ok (.ireturn, 1)) : W p l e R s m args below meth c H locs 0 0 (MQ below (va_Qi (fun r (_ : Unit) => r = out) (fun _ t => QH t.heap) A0) args s 0 0 A0) (F0 m pc ls [.int v]) := by
  obtain ⟨hx, hb, hr, hml, hown, hts, hlk, hK⟩ := C0
  exact W.iret hx hb hr (fun t ht hW => ⟨⟨v, (), rfl, hv, by show QH t.heap; rw [ht]; exact hq⟩, hS.F ht⟩) hS.2.2 hdg
theorem e_muZ (C0 : cx Ts cc nL (some .boolean) own E p s m args meth c) {v out : Int32} (hS : va_S A0 s.heap H locs) (hn : v &&& 1 = v) (hv : v = out) (hq : QH H) (hdg : decode cc pc = .ok (.ireturn, 1)) : W p l e R s m args below meth c H locs 0 0 (MQ below (va_Qi (fun r (_ : Unit) => r = out) (fun _ t => QH t.heap) A0) args s 0 0 A0) (F0 m pc ls [.int v]) := by
  obtain ⟨hx, hb, hr, hml, hown, hts, hlk, hK⟩ := C0
  exact W.zret hx hb hr (z_nar hn) (fun t ht hW => ⟨⟨v, (), rfl, hv, by show QH t.heap; rw [ht]; exact hq⟩, hS.F ht⟩) hS.2.2 hdg
theorem e_muL (C0 : cx Ts cc nL (some .long) own E p s m args meth c) {v out : Int64} (hS : va_S A0 s.heap H locs) (hv : v = out) (hq : QH H) (hdg : decode cc pc = .ok (.lreturn, 1)) : W p l e R s m args below meth c H locs 0 0 (MQ below (va_Ql (fun r (_ : Unit) => r = out) (fun _ t => QH t.heap) A0) args s 0 0 A0) (F0 m pc ls [.long v]) := by
  obtain ⟨hx, hb, hr, hml, hown, hts, hlk, hK⟩ := C0
  exact W.lret hx hb hr (fun t ht hW => ⟨⟨v, (), rfl, hv, by show QH t.heap; rw [ht]; exact hq⟩, hS.F ht⟩) hS.2.2 hdg
theorem e_muV (C0 : cx Ts cc nL none own E p s m args meth c) (hS : va_S A0 s.heap H locs) (hq : QH H) (hdg : decode cc pc = .ok (.return_, 1)) : W p l e R s m args below meth c H locs 0 0 (MQ below (va_Qv (fun (_ : Unit) => True) (fun _ t => QH t.heap) A0) args s 0 0 A0) (F0 m pc ls []) := by
  obtain ⟨hx, hb, hr, hml, hown, hts, hlk, hK⟩ := C0
  exact W.vret hx hb hr (fun t ht hW => ⟨⟨(), rfl, trivial, by show QH t.heap; rw [ht]; exact hq⟩, hS.F ht⟩) hS.2.2 hdg
theorem e_roQ {C : String} (C0 : cx Ts cc nL (some (.object C)) own E p s m args meth c) {v out : Option Nat} (hf : v = out) (hdg : decode cc pc = .ok (.areturn, 1)) : W p l e R s m args below meth c s.heap [] 0 0 (MQ below (va_Sq (fun r => r = out)) args s 0 0 (fun _ => False)) (F0 m pc ls [va_rf v]) := by
  obtain ⟨hx, hb, hr, hml, hown, hts, hlk, hK⟩ := C0
  exact W.aret hx hb hr (Or.inl ⟨_, rfl⟩) (va_rf_or v) (fun t ht hW => ⟨v, rfl, hf, ht⟩) (fun _ h => by cases h) hdg
end CALLS
end
section
set_option maxRecDepth 20000 in
theorem wsL_law_r1_tb : ∀ w ∈ wsL_law_r1, w ∈ lw_tbl := fun w h => (goodIn_p wsL_law_r1 [80, 83] (by decide +kernel) (by decide +kernel) w h).1
set_option maxRecDepth 20000 in
theorem wsL_law_r2_tb : ∀ w ∈ wsL_law_r2, w ∈ lw_tbl := fun w h => (goodIn_p wsL_law_r2 [92, 121, 145, 555] (by decide +kernel) (by decide +kernel) w h).1
set_option maxRecDepth 20000 in
theorem wsL_law_r3_tb : ∀ w ∈ wsL_law_r3, w ∈ lw_tbl := fun w h => (goodIn_p wsL_law_r3 [197, 200, 203, 207] (by decide +kernel) (by decide +kernel) w h).1
set_option maxRecDepth 20000 in
theorem wsL_law_r4_tb : ∀ w ∈ wsL_law_r4, w ∈ lw_tbl := fun w h => (goodIn_p wsL_law_r4 [211, 214, 218, 222, 225, 229, 232] (by decide +kernel) (by decide +kernel) w h).1
set_option maxRecDepth 20000 in
theorem wsL_law_r5_tb : ∀ w ∈ wsL_law_r5, w ∈ lw_tbl := fun w h => (goodIn_p wsL_law_r5 [235, 238, 242, 245, 248, 252, 256] (by decide +kernel) (by decide +kernel) w h).1
set_option maxRecDepth 20000 in
theorem wsL_law_r6_tb : ∀ w ∈ wsL_law_r6, w ∈ lw_tbl := fun w h => (goodIn_p wsL_law_r6 [259, 633, 636] (by decide +kernel) (by decide +kernel) w h).1
set_option maxRecDepth 20000 in
theorem wsL_law_r7_tb : ∀ w ∈ wsL_law_r7, w ∈ lw_tbl := fun w h => (goodIn_p wsL_law_r7 [640, 644, 649, 653, 656, 660] (by decide +kernel) (by decide +kernel) w h).1
set_option maxRecDepth 20000 in
theorem wsL_law_r8_tb : ∀ w ∈ wsL_law_r8, w ∈ lw_tbl := fun w h => (goodIn_p wsL_law_r8 [664, 668, 672, 264, 268, 271, 275] (by decide +kernel) (by decide +kernel) w h).1
set_option maxRecDepth 20000 in
theorem wsL_law_r9_tb : ∀ w ∈ wsL_law_r9, w ∈ lw_tbl := fun w h => (goodIn_p wsL_law_r9 [676, 680, 683, 687, 691, 279] (by decide +kernel) (by decide +kernel) w h).1
set_option maxRecDepth 20000 in
theorem wsL_law_r10_tb : ∀ w ∈ wsL_law_r10, w ∈ lw_tbl := fun w h => (goodIn_p wsL_law_r10 [695, 283, 700, 287, 705] (by decide +kernel) (by decide +kernel) w h).1
set_option maxRecDepth 20000 in
theorem wsL_law_r11_tb : ∀ w ∈ wsL_law_r11, w ∈ lw_tbl := fun w h => (goodIn_p wsL_law_r11 [291, 295, 299, 303, 308, 312, 316] (by decide +kernel) (by decide +kernel) w h).1
set_option maxRecDepth 20000 in
theorem wsL_law_r12_tb : ∀ w ∈ wsL_law_r12, w ∈ lw_tbl := fun w h => (goodIn_p wsL_law_r12 [320, 324, 328, 331, 335, 339] (by decide +kernel) (by decide +kernel) w h).1
set_option maxRecDepth 20000 in
theorem wsL_law_r13_tb : ∀ w ∈ wsL_law_r13, w ∈ lw_tbl := fun w h => (goodIn_p wsL_law_r13 [342, 709, 714, 718] (by decide +kernel) (by decide +kernel) w h).1
set_option maxRecDepth 20000 in
theorem wsL_law_r14_tb : ∀ w ∈ wsL_law_r14, w ∈ lw_tbl := fun w h => (goodIn_p wsL_law_r14 [722, 726, 729, 349, 352, 357, 361] (by decide +kernel) (by decide +kernel) w h).1
set_option maxRecDepth 20000 in
theorem wsL_law_r15_tb : ∀ w ∈ wsL_law_r15, w ∈ lw_tbl := fun w h => (goodIn_p wsL_law_r15 [365, 369, 372, 733, 736, 741] (by decide +kernel) (by decide +kernel) w h).1
set_option maxRecDepth 20000 in
theorem wsL_law_r16_tb : ∀ w ∈ wsL_law_r16, w ∈ lw_tbl := fun w h => (goodIn_p wsL_law_r16 [745, 748, 752, 755, 376, 380, 384] (by decide +kernel) (by decide +kernel) w h).1
set_option maxRecDepth 20000 in
theorem wsL_law_r17_tb : ∀ w ∈ wsL_law_r17, w ∈ lw_tbl := fun w h => (goodIn_p wsL_law_r17 [388, 392, 396, 400, 404, 759] (by decide +kernel) (by decide +kernel) w h).1
set_option maxRecDepth 20000 in
theorem wsL_law_r18_tb : ∀ w ∈ wsL_law_r18, w ∈ lw_tbl := fun w h => (goodIn_p wsL_law_r18 [763, 408, 767, 412, 416, 771] (by decide +kernel) (by decide +kernel) w h).1
set_option maxRecDepth 20000 in
theorem wsL_law_r19_tb : ∀ w ∈ wsL_law_r19, w ∈ lw_tbl := fun w h => (goodIn_p wsL_law_r19 [775, 421, 779, 425, 429, 784] (by decide +kernel) (by decide +kernel) w h).1
set_option maxRecDepth 20000 in
theorem wsL_law_r20_tb : ∀ w ∈ wsL_law_r20, w ∈ lw_tbl := fun w h => (goodIn_p wsL_law_r20 [787, 433, 437, 791, 795, 444] (by decide +kernel) (by decide +kernel) w h).1
set_option maxRecDepth 20000 in
theorem wsL_law_r21_tb : ∀ w ∈ wsL_law_r21, w ∈ lw_tbl := fun w h => (goodIn_p wsL_law_r21 [799, 448, 803, 452, 456, 460] (by decide +kernel) (by decide +kernel) w h).1
set_option maxRecDepth 20000 in
theorem wsL_law_r22_tb : ∀ w ∈ wsL_law_r22, w ∈ lw_tbl := fun w h => (goodIn_p wsL_law_r22 [807, 811, 464, 815, 468, 819] (by decide +kernel) (by decide +kernel) w h).1
set_option maxRecDepth 20000 in
theorem wsL_law_r23_tb : ∀ w ∈ wsL_law_r23, w ∈ lw_tbl := fun w h => (goodIn_p wsL_law_r23 [473, 477, 823, 483, 487] (by decide +kernel) (by decide +kernel) w h).1
set_option maxRecDepth 20000 in
theorem wsL_law_r24_tb : ∀ w ∈ wsL_law_r24, w ∈ lw_tbl := fun w h => (goodIn_p wsL_law_r24 [827, 491, 495, 499, 831, 835, 503] (by decide +kernel) (by decide +kernel) w h).1
set_option maxRecDepth 20000 in
theorem wsL_law_r25_tb : ∀ w ∈ wsL_law_r25, w ∈ lw_tbl := fun w h => (goodIn_p wsL_law_r25 [839, 843, 507, 847, 514] (by decide +kernel) (by decide +kernel) w h).1
set_option maxRecDepth 20000 in
theorem wsL_law_r26_tb : ∀ w ∈ wsL_law_r26, w ∈ lw_tbl := fun w h => (goodIn_p wsL_law_r26 [518, 522, 526, 530, 851] (by decide +kernel) (by decide +kernel) w h).1
set_option maxRecDepth 20000 in
theorem wsL_law_r27_tb : ∀ w ∈ wsL_law_r27, w ∈ lw_tbl := fun w h => (goodIn_p wsL_law_r27 [855, 534, 859, 538, 863, 542] (by decide +kernel) (by decide +kernel) w h).1
set_option maxRecDepth 20000 in
theorem wsL_law_r28_tb : ∀ w ∈ wsL_law_r28, w ∈ lw_tbl := fun w h => (goodIn_p wsL_law_r28 [867, 546, 871, 550, 875] (by decide +kernel) (by decide +kernel) w h).1
set_option maxRecDepth 20000 in
theorem wsX40_tb : ∀ w ∈ wsX40, w ∈ lw_tbl := fun w h => (goodIn_p wsX40 [] (by decide +kernel) (by decide +kernel) w h).1
set_option maxRecDepth 20000 in
theorem wsX50_tb : ∀ w ∈ wsX50, w ∈ lw_tbl := fun w h => (goodIn_p wsX50 [] (by decide +kernel) (by decide +kernel) w h).1
set_option maxRecDepth 20000 in
theorem wsX10_tb : ∀ w ∈ wsX10, w ∈ lw_tbl := fun w h => (goodIn_p wsX10 [] (by decide +kernel) (by decide +kernel) w h).1
set_option maxRecDepth 20000 in
theorem wsX00_tb : ∀ w ∈ wsX00, w ∈ lw_tbl := fun w h => (goodIn_p wsX00 [] (by decide +kernel) (by decide +kernel) w h).1
set_option maxRecDepth 20000 in
theorem wsX20_tb : ∀ w ∈ wsX20, w ∈ lw_tbl := fun w h => (goodIn_p wsX20 [] (by decide +kernel) (by decide +kernel) w h).1
theorem app_in {a b big : List Cond} (ha : ∀ w ∈ a, w ∈ big) (hb : ∀ w ∈ b, w ∈ big) : ∀ w ∈ a ++ b, w ∈ big := fun w h => (List.mem_append.mp h).elim (ha w) (hb w)
theorem wsL_law_in : ∀ w ∈ wsL_law, w ∈ lw_tbl := app_in (app_in (app_in (app_in (app_in (app_in (app_in wsL_law_r1_tb (app_in wsL_law_r2_tb (app_in wsL_law_r3_tb (app_in wsL_law_r4_tb (app_in wsL_law_r5_tb (app_in wsL_law_r6_tb (app_in wsL_law_r7_tb (app_in wsL_law_r8_tb (app_in wsL_law_r9_tb (app_in wsL_law_r10_tb (app_in wsL_law_r11_tb (app_in wsL_law_r12_tb (app_in wsL_law_r13_tb (app_in wsL_law_r14_tb (app_in wsL_law_r15_tb (app_in wsL_law_r16_tb (app_in wsL_law_r17_tb (app_in wsL_law_r18_tb (app_in wsL_law_r19_tb (app_in wsL_law_r20_tb (app_in wsL_law_r21_tb (app_in wsL_law_r22_tb (app_in wsL_law_r23_tb (app_in wsL_law_r24_tb (app_in wsL_law_r25_tb (app_in wsL_law_r26_tb (app_in wsL_law_r27_tb (wsL_law_r28_tb)))))))))))))))))))))))))))) wsX40_tb) wsX50_tb) wsX10_tb) wsX00_tb) wsX20_tb) (fun _ h => absurd h List.not_mem_nil)
theorem inlX0 : ∀ w ∈ wsX00, w ∈ wsL_law := fun _ h => List.mem_append_left _ (List.mem_append_left _ (List.mem_append_right _ h))
theorem inX0 : ∀ w ∈ wsX00, w ∈ lw_tbl := fun w h => wsL_law_in w (inlX0 w h)
theorem inlX1 : ∀ w ∈ wsX10, w ∈ wsL_law := fun _ h => List.mem_append_left _ (List.mem_append_left _ (List.mem_append_left _ (List.mem_append_right _ h)))
theorem inX1 : ∀ w ∈ wsX10, w ∈ lw_tbl := fun w h => wsL_law_in w (inlX1 w h)
theorem inlX2 : ∀ w ∈ wsX20, w ∈ wsL_law := fun _ h => List.mem_append_left _ (List.mem_append_right _ h)
theorem inX2 : ∀ w ∈ wsX20, w ∈ lw_tbl := fun w h => wsL_law_in w (inlX2 w h)
theorem inX3 : ∀ w ∈ wsX30, w ∈ lw_tbl := by decide +kernel
theorem inlX4 : ∀ w ∈ wsX40, w ∈ wsL_law := fun _ h => List.mem_append_left _ (List.mem_append_left _ (List.mem_append_left _ (List.mem_append_left _ (List.mem_append_left _ (List.mem_append_right _ h)))))
theorem inX4 : ∀ w ∈ wsX40, w ∈ lw_tbl := fun w h => wsL_law_in w (inlX4 w h)
theorem inlX5 : ∀ w ∈ wsX50, w ∈ wsL_law := fun _ h => List.mem_append_left _ (List.mem_append_left _ (List.mem_append_left _ (List.mem_append_left _ (List.mem_append_right _ h))))
theorem inX5 : ∀ w ∈ wsX50, w ∈ lw_tbl := fun w h => wsL_law_in w (inlX5 w h)
end
section
theorem dX0_init_0 : decode cX0_init 0 = .ok (.aload_n 0, 1) := by decide +kernel
theorem dX0_init_1 : decode cX0_init 1 = .ok (.invokespecial 1, 3) := by decide +kernel
theorem dX0_init_4 : decode cX0_init 4 = .ok (.return_, 1) := by decide +kernel
set_option maxRecDepth 20000 in
theorem ggX0_slips_X4_slipsOf : GoodIn wsX0_slips wsX4_slipsOf := goodIn_r _ [5] (by decide +kernel) (by decide +kernel)
set_option maxRecDepth 20000 in
theorem gX0_slips_X4_slipsOf_n16 : GoodIn wsX0_slips (wsX4_slipsOf) := ggX0_slips_X4_slipsOf
theorem dX0_slips_0 : decode cX0_slips 0 = .ok (.aload_n 0, 1) := by decide +kernel
theorem dX0_slips_1 : decode cX0_slips 1 = .ok (.getfield 7, 3) := by decide +kernel
theorem dX0_slips_4 : decode cX0_slips 4 = .ok (.aload_n 0, 1) := by decide +kernel
theorem dX0_slips_5 : decode cX0_slips 5 = .ok (.getfield 13, 3) := by decide +kernel
theorem dX0_slips_8 : decode cX0_slips 8 = .ok (.invokestatic 16, 3) := by decide +kernel
theorem dX0_slips_11 : decode cX0_slips 11 = .ok (.ireturn, 1) := by decide +kernel
theorem dX1_init_0 : decode cX1_init 0 = .ok (.aload_n 0, 1) := by decide +kernel
theorem dX1_init_1 : decode cX1_init 1 = .ok (.invokespecial 3, 3) := by decide +kernel
theorem dX1_init_4 : decode cX1_init 4 = .ok (.aload_n 0, 1) := by decide +kernel
theorem dX1_init_5 : decode cX1_init 5 = .ok (.bipush 6, 2) := by decide +kernel
theorem dX1_init_7 : decode cX1_init 7 = .ok (.newarray .int, 2) := by decide +kernel
theorem dX1_init_9 : decode cX1_init 9 = .ok (.putfield 9, 3) := by decide +kernel
theorem dX1_init_12 : decode cX1_init 12 = .ok (.aload_n 0, 1) := by decide +kernel
theorem dX1_init_13 : decode cX1_init 13 = .ok (.bipush 42, 2) := by decide +kernel
theorem dX1_init_15 : decode cX1_init 15 = .ok (.newarray .long, 2) := by decide +kernel
theorem dX1_init_17 : decode cX1_init 17 = .ok (.putfield 15, 3) := by decide +kernel
theorem dX1_init_20 : decode cX1_init 20 = .ok (.aload_n 0, 1) := by decide +kernel
theorem dX1_init_21 : decode cX1_init 21 = .ok (.sipush 448, 3) := by decide +kernel
theorem dX1_init_24 : decode cX1_init 24 = .ok (.newarray .long, 2) := by decide +kernel
theorem dX1_init_26 : decode cX1_init 26 = .ok (.putfield 19, 3) := by decide +kernel
theorem dX1_init_29 : decode cX1_init 29 = .ok (.aload_n 0, 1) := by decide +kernel
theorem dX1_init_30 : decode cX1_init 30 = .ok (.getfield 19, 3) := by decide +kernel
theorem dX1_init_33 : decode cX1_init 33 = .ok (.iconst 0, 1) := by decide +kernel
theorem dX1_init_34 : decode cX1_init 34 = .ok (.lconst 1, 1) := by decide +kernel
theorem dX1_init_35 : decode cX1_init 35 = .ok (.lastore, 1) := by decide +kernel
theorem dX1_init_36 : decode cX1_init 36 = .ok (.return_, 1) := by decide +kernel
set_option maxRecDepth 20000 in
theorem ggX1_empty_X1_setDrawn : GoodIn wsX1_empty wsX1_setDrawn := goodIn_r _ [16, 1, 2, 3, 4, 5, 6, 7, 17, 18, 19, 20, 21, 22, 23, 24] (by decide +kernel) (by decide +kernel)
set_option maxRecDepth 20000 in
theorem gX1_empty_X1_setDrawn : GoodIn wsX1_empty (wsV RX1 41 RX1 yX1_setDrawn wsX1_setDrawn) := goodIn_app (goodIn_of _ (by decide +kernel)) ggX1_empty_X1_setDrawn
theorem dX1_empty_0 : decode cX1_empty 0 = .ok (.aload_n 0, 1) := by decide +kernel
theorem dX1_empty_1 : decode cX1_empty 1 = .ok (.iconst 0, 1) := by decide +kernel
theorem dX1_empty_2 : decode cX1_empty 2 = .ok (.iload_n 1, 1) := by decide +kernel
theorem dX1_empty_3 : decode cX1_empty 3 = .ok (.bipush 6, 2) := by decide +kernel
theorem dX1_empty_5 : decode cX1_empty 5 = .ok (.invokestatic 22, 3) := by decide +kernel
theorem dX1_empty_8 : decode cX1_empty 8 = .ok (.invokestatic 28, 3) := by decide +kernel
theorem dX1_empty_11 : decode cX1_empty 11 = .ok (.putfield 31, 3) := by decide +kernel
theorem dX1_empty_14 : decode cX1_empty 14 = .ok (.aload_n 0, 1) := by decide +kernel
theorem dX1_empty_15 : decode cX1_empty 15 = .ok (.iconst 0, 1) := by decide +kernel
theorem dX1_empty_16 : decode cX1_empty 16 = .ok (.putfield 35, 3) := by decide +kernel
theorem dX1_empty_19 : decode cX1_empty 19 = .ok (.aload_n 0, 1) := by decide +kernel
theorem dX1_empty_20 : decode cX1_empty 20 = .ok (.iconst 0, 1) := by decide +kernel
theorem dX1_empty_21 : decode cX1_empty 21 = .ok (.putfield 38, 3) := by decide +kernel
theorem dX1_empty_24 : decode cX1_empty 24 = .ok (.iconst 0, 1) := by decide +kernel
theorem dX1_empty_25 : decode cX1_empty 25 = .ok (.istore_n 3, 1) := by decide +kernel
theorem dX1_empty_26 : decode cX1_empty 26 = .ok (.iload_n 3, 1) := by decide +kernel
theorem dX1_empty_27 : decode cX1_empty 27 = .ok (.aload_n 0, 1) := by decide +kernel
theorem dX1_empty_28 : decode cX1_empty 28 = .ok (.getfield 9, 3) := by decide +kernel
theorem dX1_empty_31 : decode cX1_empty 31 = .ok (.arraylength, 1) := by decide +kernel
theorem dX1_empty_32 : decode cX1_empty 32 = .ok (.if_icmp .ge 16, 3) := by decide +kernel
theorem dX1_empty_35 : decode cX1_empty 35 = .ok (.aload_n 0, 1) := by decide +kernel
theorem dX1_empty_36 : decode cX1_empty 36 = .ok (.getfield 9, 3) := by decide +kernel
theorem dX1_empty_39 : decode cX1_empty 39 = .ok (.iload_n 3, 1) := by decide +kernel
theorem dX1_empty_40 : decode cX1_empty 40 = .ok (.iconst 0, 1) := by decide +kernel
theorem dX1_empty_41 : decode cX1_empty 41 = .ok (.iastore, 1) := by decide +kernel
theorem dX1_empty_42 : decode cX1_empty 42 = .ok (.iinc 3 1, 3) := by decide +kernel
theorem dX1_empty_45 : decode cX1_empty 45 = .ok (.goto (-19), 3) := by decide +kernel
theorem dX1_empty_48 : decode cX1_empty 48 = .ok (.aload_n 0, 1) := by decide +kernel
theorem dX1_empty_49 : decode cX1_empty 49 = .ok (.iload_n 2, 1) := by decide +kernel
theorem dX1_empty_50 : decode cX1_empty 50 = .ok (.invokevirtual 41, 3) := by decide +kernel
theorem dX1_empty_53 : decode cX1_empty 53 = .ok (.return_, 1) := by decide +kernel
theorem dX1_setDrawn_0 : decode cX1_setDrawn 0 = .ok (.aload_n 0, 1) := by decide +kernel
theorem dX1_setDrawn_1 : decode cX1_setDrawn 1 = .ok (.iconst 0, 1) := by decide +kernel
theorem dX1_setDrawn_2 : decode cX1_setDrawn 2 = .ok (.iload_n 1, 1) := by decide +kernel
theorem dX1_setDrawn_3 : decode cX1_setDrawn 3 = .ok (.bipush 6, 2) := by decide +kernel
theorem dX1_setDrawn_5 : decode cX1_setDrawn 5 = .ok (.invokestatic 22, 3) := by decide +kernel
theorem dX1_setDrawn_8 : decode cX1_setDrawn 8 = .ok (.invokestatic 28, 3) := by decide +kernel
theorem dX1_setDrawn_11 : decode cX1_setDrawn 11 = .ok (.putfield 45, 3) := by decide +kernel
theorem dX1_setDrawn_14 : decode cX1_setDrawn 14 = .ok (.return_, 1) := by decide +kernel
set_option maxRecDepth 20000 in
theorem ggX1_setSlips_X1_choose : GoodIn wsX1_setSlips wsX1_choose := goodIn_r _ [7] (by decide +kernel) (by decide +kernel)
set_option maxRecDepth 20000 in
theorem gX1_setSlips_X1_choose : GoodIn wsX1_setSlips (va_wsS RX1 48 yX1_choose wsX1_choose) := goodIn_app (goodIn_of _ (by decide +kernel)) ggX1_setSlips_X1_choose
theorem dX1_setSlips_0 : decode cX1_setSlips 0 = .ok (.iload_n 1, 1) := by decide +kernel
theorem dX1_setSlips_1 : decode cX1_setSlips 1 = .ok (.ifCond .lt 12, 3) := by decide +kernel
theorem dX1_setSlips_4 : decode cX1_setSlips 4 = .ok (.iload_n 1, 1) := by decide +kernel
theorem dX1_setSlips_5 : decode cX1_setSlips 5 = .ok (.aload_n 0, 1) := by decide +kernel
theorem dX1_setSlips_6 : decode cX1_setSlips 6 = .ok (.getfield 9, 3) := by decide +kernel
theorem dX1_setSlips_9 : decode cX1_setSlips 9 = .ok (.arraylength, 1) := by decide +kernel
theorem dX1_setSlips_10 : decode cX1_setSlips 10 = .ok (.if_icmp .lt 4, 3) := by decide +kernel
theorem dX1_setSlips_13 : decode cX1_setSlips 13 = .ok (.return_, 1) := by decide +kernel
theorem dX1_setSlips_14 : decode cX1_setSlips 14 = .ok (.aload_n 0, 1) := by decide +kernel
theorem dX1_setSlips_15 : decode cX1_setSlips 15 = .ok (.dup, 1) := by decide +kernel
theorem dX1_setSlips_16 : decode cX1_setSlips 16 = .ok (.getfield 38, 3) := by decide +kernel
theorem dX1_setSlips_19 : decode cX1_setSlips 19 = .ok (.iload_n 2, 1) := by decide +kernel
theorem dX1_setSlips_20 : decode cX1_setSlips 20 = .ok (.aload_n 0, 1) := by decide +kernel
theorem dX1_setSlips_21 : decode cX1_setSlips 21 = .ok (.getfield 9, 3) := by decide +kernel
theorem dX1_setSlips_24 : decode cX1_setSlips 24 = .ok (.iload_n 1, 1) := by decide +kernel
theorem dX1_setSlips_25 : decode cX1_setSlips 25 = .ok (.iaload, 1) := by decide +kernel
theorem dX1_setSlips_26 : decode cX1_setSlips 26 = .ok (.isub, 1) := by decide +kernel
theorem dX1_setSlips_27 : decode cX1_setSlips 27 = .ok (.iadd, 1) := by decide +kernel
theorem dX1_setSlips_28 : decode cX1_setSlips 28 = .ok (.putfield 38, 3) := by decide +kernel
theorem dX1_setSlips_31 : decode cX1_setSlips 31 = .ok (.aload_n 0, 1) := by decide +kernel
theorem dX1_setSlips_32 : decode cX1_setSlips 32 = .ok (.getfield 9, 3) := by decide +kernel
theorem dX1_setSlips_35 : decode cX1_setSlips 35 = .ok (.iload_n 1, 1) := by decide +kernel
theorem dX1_setSlips_36 : decode cX1_setSlips 36 = .ok (.iload_n 2, 1) := by decide +kernel
theorem dX1_setSlips_37 : decode cX1_setSlips 37 = .ok (.iastore, 1) := by decide +kernel
theorem dX1_setSlips_38 : decode cX1_setSlips 38 = .ok (.iconst 0, 1) := by decide +kernel
theorem dX1_setSlips_39 : decode cX1_setSlips 39 = .ok (.istore_n 3, 1) := by decide +kernel
theorem dX1_setSlips_40 : decode cX1_setSlips 40 = .ok (.iload_n 3, 1) := by decide +kernel
theorem dX1_setSlips_41 : decode cX1_setSlips 41 = .ok (.bipush 7, 2) := by decide +kernel
theorem dX1_setSlips_43 : decode cX1_setSlips 43 = .ok (.if_icmp .ge 39, 3) := by decide +kernel
theorem dX1_setSlips_46 : decode cX1_setSlips 46 = .ok (.iload_n 1, 1) := by decide +kernel
theorem dX1_setSlips_47 : decode cX1_setSlips 47 = .ok (.bipush 7, 2) := by decide +kernel
theorem dX1_setSlips_49 : decode cX1_setSlips 49 = .ok (.imul, 1) := by decide +kernel
theorem dX1_setSlips_50 : decode cX1_setSlips 50 = .ok (.iload_n 3, 1) := by decide +kernel
theorem dX1_setSlips_51 : decode cX1_setSlips 51 = .ok (.iadd, 1) := by decide +kernel
theorem dX1_setSlips_52 : decode cX1_setSlips 52 = .ok (.istore 4, 2) := by decide +kernel
theorem dX1_setSlips_54 : decode cX1_setSlips 54 = .ok (.iload 4, 2) := by decide +kernel
theorem dX1_setSlips_56 : decode cX1_setSlips 56 = .ok (.aload_n 0, 1) := by decide +kernel
theorem dX1_setSlips_57 : decode cX1_setSlips 57 = .ok (.getfield 15, 3) := by decide +kernel
theorem dX1_setSlips_60 : decode cX1_setSlips 60 = .ok (.arraylength, 1) := by decide +kernel
theorem dX1_setSlips_61 : decode cX1_setSlips 61 = .ok (.if_icmp .ge 15, 3) := by decide +kernel
theorem dX1_setSlips_64 : decode cX1_setSlips 64 = .ok (.aload_n 0, 1) := by decide +kernel
theorem dX1_setSlips_65 : decode cX1_setSlips 65 = .ok (.getfield 15, 3) := by decide +kernel
theorem dX1_setSlips_68 : decode cX1_setSlips 68 = .ok (.iload 4, 2) := by decide +kernel
theorem dX1_setSlips_70 : decode cX1_setSlips 70 = .ok (.iload_n 2, 1) := by decide +kernel
theorem dX1_setSlips_71 : decode cX1_setSlips 71 = .ok (.iload_n 3, 1) := by decide +kernel
theorem dX1_setSlips_72 : decode cX1_setSlips 72 = .ok (.invokestatic 48, 3) := by decide +kernel
theorem dX1_setSlips_75 : decode cX1_setSlips 75 = .ok (.lastore, 1) := by decide +kernel
theorem dX1_setSlips_76 : decode cX1_setSlips 76 = .ok (.iinc 3 1, 3) := by decide +kernel
theorem dX1_setSlips_79 : decode cX1_setSlips 79 = .ok (.goto (-39), 3) := by decide +kernel
theorem dX1_setSlips_82 : decode cX1_setSlips 82 = .ok (.return_, 1) := by decide +kernel
theorem dX1_setWishes_0 : decode cX1_setWishes 0 = .ok (.iconst 1, 1) := by decide +kernel
theorem dX1_setWishes_1 : decode cX1_setWishes 1 = .ok (.iload_n 1, 1) := by decide +kernel
theorem dX1_setWishes_2 : decode cX1_setWishes 2 = .ok (.ishl, 1) := by decide +kernel
theorem dX1_setWishes_3 : decode cX1_setWishes 3 = .ok (.istore_n 3, 1) := by decide +kernel
theorem dX1_setWishes_4 : decode cX1_setWishes 4 = .ok (.aload_n 0, 1) := by decide +kernel
theorem dX1_setWishes_5 : decode cX1_setWishes 5 = .ok (.iload_n 2, 1) := by decide +kernel
theorem dX1_setWishes_6 : decode cX1_setWishes 6 = .ok (.ifCond .eq 12, 3) := by decide +kernel
theorem dX1_setWishes_9 : decode cX1_setWishes 9 = .ok (.aload_n 0, 1) := by decide +kernel
theorem dX1_setWishes_10 : decode cX1_setWishes 10 = .ok (.getfield 35, 3) := by decide +kernel
theorem dX1_setWishes_13 : decode cX1_setWishes 13 = .ok (.iload_n 3, 1) := by decide +kernel
theorem dX1_setWishes_14 : decode cX1_setWishes 14 = .ok (.ior, 1) := by decide +kernel
theorem dX1_setWishes_15 : decode cX1_setWishes 15 = .ok (.goto 11, 3) := by decide +kernel
theorem dX1_setWishes_18 : decode cX1_setWishes 18 = .ok (.aload_n 0, 1) := by decide +kernel
theorem dX1_setWishes_19 : decode cX1_setWishes 19 = .ok (.getfield 35, 3) := by decide +kernel
theorem dX1_setWishes_22 : decode cX1_setWishes 22 = .ok (.iload_n 3, 1) := by decide +kernel
theorem dX1_setWishes_23 : decode cX1_setWishes 23 = .ok (.iconst (-1), 1) := by decide +kernel
theorem dX1_setWishes_24 : decode cX1_setWishes 24 = .ok (.ixor, 1) := by decide +kernel
theorem dX1_setWishes_25 : decode cX1_setWishes 25 = .ok (.iand, 1) := by decide +kernel
theorem dX1_setWishes_26 : decode cX1_setWishes 26 = .ok (.putfield 35, 3) := by decide +kernel
theorem dX1_setWishes_29 : decode cX1_setWishes 29 = .ok (.return_, 1) := by decide +kernel
theorem dX1_slipsOfOne_0 : decode cX1_slipsOfOne 0 = .ok (.iload_n 1, 1) := by decide +kernel
theorem dX1_slipsOfOne_1 : decode cX1_slipsOfOne 1 = .ok (.ifCond .lt 21, 3) := by decide +kernel
theorem dX1_slipsOfOne_4 : decode cX1_slipsOfOne 4 = .ok (.iload_n 1, 1) := by decide +kernel
theorem dX1_slipsOfOne_5 : decode cX1_slipsOfOne 5 = .ok (.aload_n 0, 1) := by decide +kernel
theorem dX1_slipsOfOne_6 : decode cX1_slipsOfOne 6 = .ok (.getfield 9, 3) := by decide +kernel
theorem dX1_slipsOfOne_9 : decode cX1_slipsOfOne 9 = .ok (.arraylength, 1) := by decide +kernel
theorem dX1_slipsOfOne_10 : decode cX1_slipsOfOne 10 = .ok (.if_icmp .ge 12, 3) := by decide +kernel
theorem dX1_slipsOfOne_13 : decode cX1_slipsOfOne 13 = .ok (.aload_n 0, 1) := by decide +kernel
theorem dX1_slipsOfOne_14 : decode cX1_slipsOfOne 14 = .ok (.getfield 9, 3) := by decide +kernel
theorem dX1_slipsOfOne_17 : decode cX1_slipsOfOne 17 = .ok (.iload_n 1, 1) := by decide +kernel
theorem dX1_slipsOfOne_18 : decode cX1_slipsOfOne 18 = .ok (.iaload, 1) := by decide +kernel
theorem dX1_slipsOfOne_19 : decode cX1_slipsOfOne 19 = .ok (.goto 4, 3) := by decide +kernel
theorem dX1_slipsOfOne_22 : decode cX1_slipsOfOne 22 = .ok (.iconst 0, 1) := by decide +kernel
theorem dX1_slipsOfOne_23 : decode cX1_slipsOfOne 23 = .ok (.ireturn, 1) := by decide +kernel
theorem dX1_taken_0 : decode cX1_taken 0 = .ok (.aload_n 0, 1) := by decide +kernel
theorem dX1_taken_1 : decode cX1_taken 1 = .ok (.getfield 45, 3) := by decide +kernel
theorem dX1_taken_4 : decode cX1_taken 4 = .ok (.aload_n 0, 1) := by decide +kernel
theorem dX1_taken_5 : decode cX1_taken 5 = .ok (.getfield 38, 3) := by decide +kernel
theorem dX1_taken_8 : decode cX1_taken 8 = .ok (.invokestatic 22, 3) := by decide +kernel
theorem dX1_taken_11 : decode cX1_taken 11 = .ok (.ireturn, 1) := by decide +kernel
set_option maxRecDepth 20000 in
theorem ggX1_draws_X1_taken : GoodIn wsX1_draws wsX1_taken := goodIn_r _ [6, 7, 1, 8, 9, 10, 11, 15, 16, 17, 18, 19, 20, 21] (by decide +kernel) (by decide +kernel)
set_option maxRecDepth 20000 in
theorem gX1_draws_X1_taken : GoodIn wsX1_draws (wsV RX1 52 RX1 yX1_taken wsX1_taken) := goodIn_app (goodIn_of _ (by decide +kernel)) ggX1_draws_X1_taken
set_option maxRecDepth 20000 in
theorem ggX1_draws_X1_choose : GoodIn wsX1_draws wsX1_choose := goodIn_r _ [14] (by decide +kernel) (by decide +kernel)
set_option maxRecDepth 20000 in
theorem gX1_draws_X1_choose : GoodIn wsX1_draws (va_wsS RX1 48 yX1_choose wsX1_choose) := goodIn_app (goodIn_of _ (by decide +kernel)) ggX1_draws_X1_choose
theorem dX1_draws_0 : decode cX1_draws 0 = .ok (.aload_n 0, 1) := by decide +kernel
theorem dX1_draws_1 : decode cX1_draws 1 = .ok (.getfield 38, 3) := by decide +kernel
theorem dX1_draws_4 : decode cX1_draws 4 = .ok (.aload_n 0, 1) := by decide +kernel
theorem dX1_draws_5 : decode cX1_draws 5 = .ok (.invokevirtual 52, 3) := by decide +kernel
theorem dX1_draws_8 : decode cX1_draws 8 = .ok (.invokestatic 48, 3) := by decide +kernel
theorem dX1_draws_11 : decode cX1_draws 11 = .ok (.lreturn, 1) := by decide +kernel
set_option maxRecDepth 20000 in
theorem ggX1_drawsSparing_X1_slipsOfOne : GoodIn wsX1_drawsSparing wsX1_slipsOfOne := goodIn_r _ [6, 7, 20, 21, 22, 23, 24, 25, 26] (by decide +kernel) (by decide +kernel)
set_option maxRecDepth 20000 in
theorem gX1_drawsSparing_X1_slipsOfOne : GoodIn wsX1_drawsSparing (wsV RX1 56 RX1 yX1_slipsOfOne wsX1_slipsOfOne) := goodIn_app (goodIn_of _ (by decide +kernel)) ggX1_drawsSparing_X1_slipsOfOne
set_option maxRecDepth 20000 in
theorem ggX1_drawsSparing_X1_taken : GoodIn wsX1_drawsSparing wsX1_taken := goodIn_r _ [11, 12, 1, 13, 14, 15, 16, 20, 21, 22, 23, 24, 25, 26] (by decide +kernel) (by decide +kernel)
set_option maxRecDepth 20000 in
theorem gX1_drawsSparing_X1_taken : GoodIn wsX1_drawsSparing (wsV RX1 52 RX1 yX1_taken wsX1_taken) := goodIn_app (goodIn_of _ (by decide +kernel)) ggX1_drawsSparing_X1_taken
set_option maxRecDepth 20000 in
theorem ggX1_drawsSparing_X1_choose : GoodIn wsX1_drawsSparing wsX1_choose := goodIn_r _ [19] (by decide +kernel) (by decide +kernel)
set_option maxRecDepth 20000 in
theorem gX1_drawsSparing_X1_choose : GoodIn wsX1_drawsSparing (va_wsS RX1 48 yX1_choose wsX1_choose) := goodIn_app (goodIn_of _ (by decide +kernel)) ggX1_drawsSparing_X1_choose
theorem dX1_drawsSparing_0 : decode cX1_drawsSparing 0 = .ok (.aload_n 0, 1) := by decide +kernel
theorem dX1_drawsSparing_1 : decode cX1_drawsSparing 1 = .ok (.getfield 38, 3) := by decide +kernel
theorem dX1_drawsSparing_4 : decode cX1_drawsSparing 4 = .ok (.aload_n 0, 1) := by decide +kernel
theorem dX1_drawsSparing_5 : decode cX1_drawsSparing 5 = .ok (.iload_n 1, 1) := by decide +kernel
theorem dX1_drawsSparing_6 : decode cX1_drawsSparing 6 = .ok (.invokevirtual 56, 3) := by decide +kernel
theorem dX1_drawsSparing_9 : decode cX1_drawsSparing 9 = .ok (.isub, 1) := by decide +kernel
theorem dX1_drawsSparing_10 : decode cX1_drawsSparing 10 = .ok (.aload_n 0, 1) := by decide +kernel
theorem dX1_drawsSparing_11 : decode cX1_drawsSparing 11 = .ok (.invokevirtual 52, 3) := by decide +kernel
theorem dX1_drawsSparing_14 : decode cX1_drawsSparing 14 = .ok (.invokestatic 48, 3) := by decide +kernel
theorem dX1_drawsSparing_17 : decode cX1_drawsSparing 17 = .ok (.lreturn, 1) := by decide +kernel
set_option maxRecDepth 20000 in
theorem ggX1_drawsLeavingJust_X1_countFreeing : GoodIn wsX1_drawsLeavingJust wsX1_countFreeing := goodIn_r _ [5, 6, 7, 8, 9, 4, 10, 11, 12, 13, 14, 15, 16, 17, 18, 19, 20, 21, 22, 23, 24, 25, 26, 27, 28, 29, 30, 31, 32, 33, 42, 43, 44, 45, 46, 47, 48] (by decide +kernel) (by decide +kernel)
set_option maxRecDepth 20000 in
theorem gX1_drawsLeavingJust_X1_countFreeing : GoodIn wsX1_drawsLeavingJust (wsV RX1 60 RX1 yX1_countFreeing wsX1_countFreeing) := goodIn_app (goodIn_of _ (by decide +kernel)) ggX1_drawsLeavingJust_X1_countFreeing
set_option maxRecDepth 20000 in
theorem ggX1_drawsLeavingJust_X1_everybody : GoodIn wsX1_drawsLeavingJust wsX1_everybody := goodIn_r _ [37, 6, 42, 43, 44, 45, 46, 47, 48] (by decide +kernel) (by decide +kernel)
set_option maxRecDepth 20000 in
theorem gX1_drawsLeavingJust_X1_everybody : GoodIn wsX1_drawsLeavingJust (wsV RX1 63 RX1 yX1_everybody wsX1_everybody) := goodIn_app (goodIn_of _ (by decide +kernel)) ggX1_drawsLeavingJust_X1_everybody
set_option maxRecDepth 20000 in
theorem ggX1_drawsLeavingJust_X1_taken : GoodIn wsX1_drawsLeavingJust wsX1_taken := goodIn_r _ [15, 16, 17, 18, 19, 20, 21, 42, 43, 44, 45, 46, 47, 48] (by decide +kernel) (by decide +kernel)
set_option maxRecDepth 20000 in
theorem gX1_drawsLeavingJust_X1_taken : GoodIn wsX1_drawsLeavingJust (wsV RX1 52 RX1 yX1_taken wsX1_taken) := goodIn_app (goodIn_of _ (by decide +kernel)) ggX1_drawsLeavingJust_X1_taken
set_option maxRecDepth 20000 in
theorem ggX1_drawsLeavingJust_X1_freeingBy : GoodIn wsX1_drawsLeavingJust wsX1_freeingBy := goodIn_r _ [41, 11, 42, 43, 44, 45, 46, 47, 48] (by decide +kernel) (by decide +kernel)
set_option maxRecDepth 20000 in
theorem gX1_drawsLeavingJust_X1_freeingBy : GoodIn wsX1_drawsLeavingJust (wsV RX1 66 RX1 yX1_freeingBy wsX1_freeingBy) := goodIn_app (goodIn_of _ (by decide +kernel)) ggX1_drawsLeavingJust_X1_freeingBy
theorem dX1_drawsLeavingJust_0 : decode cX1_drawsLeavingJust 0 = .ok (.aload_n 0, 1) := by decide +kernel
theorem dX1_drawsLeavingJust_1 : decode cX1_drawsLeavingJust 1 = .ok (.invokevirtual 60, 3) := by decide +kernel
theorem dX1_drawsLeavingJust_4 : decode cX1_drawsLeavingJust 4 = .ok (.aload_n 0, 1) := by decide +kernel
theorem dX1_drawsLeavingJust_5 : decode cX1_drawsLeavingJust 5 = .ok (.aload_n 0, 1) := by decide +kernel
theorem dX1_drawsLeavingJust_6 : decode cX1_drawsLeavingJust 6 = .ok (.invokevirtual 63, 3) := by decide +kernel
theorem dX1_drawsLeavingJust_9 : decode cX1_drawsLeavingJust 9 = .ok (.iload_n 1, 1) := by decide +kernel
theorem dX1_drawsLeavingJust_10 : decode cX1_drawsLeavingJust 10 = .ok (.iconst (-1), 1) := by decide +kernel
theorem dX1_drawsLeavingJust_11 : decode cX1_drawsLeavingJust 11 = .ok (.ixor, 1) := by decide +kernel
theorem dX1_drawsLeavingJust_12 : decode cX1_drawsLeavingJust 12 = .ok (.iand, 1) := by decide +kernel
theorem dX1_drawsLeavingJust_13 : decode cX1_drawsLeavingJust 13 = .ok (.aload_n 0, 1) := by decide +kernel
theorem dX1_drawsLeavingJust_14 : decode cX1_drawsLeavingJust 14 = .ok (.invokevirtual 52, 3) := by decide +kernel
theorem dX1_drawsLeavingJust_17 : decode cX1_drawsLeavingJust 17 = .ok (.invokevirtual 66, 3) := by decide +kernel
theorem dX1_drawsLeavingJust_20 : decode cX1_drawsLeavingJust 20 = .ok (.lreturn, 1) := by decide +kernel
set_option maxRecDepth 20000 in
theorem ggX1_drawsPassing_X1_countFreeing : GoodIn wsX1_drawsPassing wsX1_countFreeing := goodIn_r _ [5, 6, 7, 8, 9, 4, 10, 11, 12, 13, 14, 15, 16, 17, 18, 19, 20, 21, 22, 23, 24, 25, 26, 27, 28, 29, 30, 31, 32, 33, 47, 48, 49, 50, 51, 52, 53] (by decide +kernel) (by decide +kernel)
set_option maxRecDepth 20000 in
theorem gX1_drawsPassing_X1_countFreeing : GoodIn wsX1_drawsPassing (wsV RX1 60 RX1 yX1_countFreeing wsX1_countFreeing) := goodIn_app (goodIn_of _ (by decide +kernel)) ggX1_drawsPassing_X1_countFreeing
set_option maxRecDepth 20000 in
theorem ggX1_drawsPassing_X1_taken : GoodIn wsX1_drawsPassing wsX1_taken := goodIn_r _ [15, 16, 17, 18, 19, 20, 21, 47, 48, 49, 50, 51, 52, 53] (by decide +kernel) (by decide +kernel)
set_option maxRecDepth 20000 in
theorem gX1_drawsPassing_X1_taken : GoodIn wsX1_drawsPassing (wsV RX1 52 RX1 yX1_taken wsX1_taken) := goodIn_app (goodIn_of _ (by decide +kernel)) ggX1_drawsPassing_X1_taken
set_option maxRecDepth 20000 in
theorem ggX1_drawsPassing_X1_everybody : GoodIn wsX1_drawsPassing wsX1_everybody := goodIn_r _ [37, 6, 47, 48, 49, 50, 51, 52, 53] (by decide +kernel) (by decide +kernel)
set_option maxRecDepth 20000 in
theorem gX1_drawsPassing_X1_everybody : GoodIn wsX1_drawsPassing (wsV RX1 63 RX1 yX1_everybody wsX1_everybody) := goodIn_app (goodIn_of _ (by decide +kernel)) ggX1_drawsPassing_X1_everybody
set_option maxRecDepth 20000 in
theorem ggX1_drawsPassing_X1_passesUnder : GoodIn wsX1_drawsPassing wsX1_passesUnder := goodIn_r _ [41, 42, 22, 23, 24, 25, 26, 27, 28, 47, 48, 49, 50, 51, 52, 53] (by decide +kernel) (by decide +kernel)
set_option maxRecDepth 20000 in
theorem gX1_drawsPassing_X1_passesUnder : GoodIn wsX1_drawsPassing (wsV RX1 69 RX1 yX1_passesUnder wsX1_passesUnder) := goodIn_app (goodIn_of _ (by decide +kernel)) ggX1_drawsPassing_X1_passesUnder
set_option maxRecDepth 20000 in
theorem ggX1_drawsPassing_X1_freeingBy : GoodIn wsX1_drawsPassing wsX1_freeingBy := goodIn_r _ [46, 11, 47, 48, 49, 50, 51, 52, 53] (by decide +kernel) (by decide +kernel)
set_option maxRecDepth 20000 in
theorem gX1_drawsPassing_X1_freeingBy : GoodIn wsX1_drawsPassing (wsV RX1 66 RX1 yX1_freeingBy wsX1_freeingBy) := goodIn_app (goodIn_of _ (by decide +kernel)) ggX1_drawsPassing_X1_freeingBy
theorem dX1_drawsPassing_0 : decode cX1_drawsPassing 0 = .ok (.aload_n 0, 1) := by decide +kernel
theorem dX1_drawsPassing_1 : decode cX1_drawsPassing 1 = .ok (.invokevirtual 60, 3) := by decide +kernel
theorem dX1_drawsPassing_4 : decode cX1_drawsPassing 4 = .ok (.aload_n 0, 1) := by decide +kernel
theorem dX1_drawsPassing_5 : decode cX1_drawsPassing 5 = .ok (.invokevirtual 52, 3) := by decide +kernel
theorem dX1_drawsPassing_8 : decode cX1_drawsPassing 8 = .ok (.istore_n 1, 1) := by decide +kernel
theorem dX1_drawsPassing_9 : decode cX1_drawsPassing 9 = .ok (.lconst 0, 1) := by decide +kernel
theorem dX1_drawsPassing_10 : decode cX1_drawsPassing 10 = .ok (.lstore_n 2, 1) := by decide +kernel
theorem dX1_drawsPassing_11 : decode cX1_drawsPassing 11 = .ok (.iconst 0, 1) := by decide +kernel
theorem dX1_drawsPassing_12 : decode cX1_drawsPassing 12 = .ok (.istore 4, 2) := by decide +kernel
theorem dX1_drawsPassing_14 : decode cX1_drawsPassing 14 = .ok (.iload 4, 2) := by decide +kernel
theorem dX1_drawsPassing_16 : decode cX1_drawsPassing 16 = .ok (.aload_n 0, 1) := by decide +kernel
theorem dX1_drawsPassing_17 : decode cX1_drawsPassing 17 = .ok (.invokevirtual 63, 3) := by decide +kernel
theorem dX1_drawsPassing_20 : decode cX1_drawsPassing 20 = .ok (.if_icmp .gt 35, 3) := by decide +kernel
theorem dX1_drawsPassing_23 : decode cX1_drawsPassing 23 = .ok (.aload_n 0, 1) := by decide +kernel
theorem dX1_drawsPassing_24 : decode cX1_drawsPassing 24 = .ok (.iload 4, 2) := by decide +kernel
theorem dX1_drawsPassing_26 : decode cX1_drawsPassing 26 = .ok (.invokevirtual 69, 3) := by decide +kernel
theorem dX1_drawsPassing_29 : decode cX1_drawsPassing 29 = .ok (.ifCond .eq 20, 3) := by decide +kernel
theorem dX1_drawsPassing_32 : decode cX1_drawsPassing 32 = .ok (.lload_n 2, 1) := by decide +kernel
theorem dX1_drawsPassing_33 : decode cX1_drawsPassing 33 = .ok (.aload_n 0, 1) := by decide +kernel
theorem dX1_drawsPassing_34 : decode cX1_drawsPassing 34 = .ok (.aload_n 0, 1) := by decide +kernel
theorem dX1_drawsPassing_35 : decode cX1_drawsPassing 35 = .ok (.invokevirtual 63, 3) := by decide +kernel
theorem dX1_drawsPassing_38 : decode cX1_drawsPassing 38 = .ok (.iload 4, 2) := by decide +kernel
theorem dX1_drawsPassing_40 : decode cX1_drawsPassing 40 = .ok (.iconst (-1), 1) := by decide +kernel
theorem dX1_drawsPassing_41 : decode cX1_drawsPassing 41 = .ok (.ixor, 1) := by decide +kernel
theorem dX1_drawsPassing_42 : decode cX1_drawsPassing 42 = .ok (.iand, 1) := by decide +kernel
theorem dX1_drawsPassing_43 : decode cX1_drawsPassing 43 = .ok (.iload_n 1, 1) := by decide +kernel
theorem dX1_drawsPassing_44 : decode cX1_drawsPassing 44 = .ok (.invokevirtual 66, 3) := by decide +kernel
theorem dX1_drawsPassing_47 : decode cX1_drawsPassing 47 = .ok (.ladd, 1) := by decide +kernel
theorem dX1_drawsPassing_48 : decode cX1_drawsPassing 48 = .ok (.lstore_n 2, 1) := by decide +kernel
theorem dX1_drawsPassing_49 : decode cX1_drawsPassing 49 = .ok (.iinc 4 1, 3) := by decide +kernel
theorem dX1_drawsPassing_52 : decode cX1_drawsPassing 52 = .ok (.goto (-38), 3) := by decide +kernel
theorem dX1_drawsPassing_55 : decode cX1_drawsPassing 55 = .ok (.lload_n 2, 1) := by decide +kernel
theorem dX1_drawsPassing_56 : decode cX1_drawsPassing 56 = .ok (.lreturn, 1) := by decide +kernel
set_option maxRecDepth 20000 in
theorem ggX1_passesUnder_J6_bitCount_0f7a4 : GoodIn wsX1_passesUnder wsJ6_bitCount_0f7a4 := goodIn_r _ [5, 6, 7, 8] (by decide +kernel) (by decide +kernel)
set_option maxRecDepth 20000 in
theorem gX1_passesUnder_J6_bitCount_0f7a4 : GoodIn wsX1_passesUnder (va_wsS RX1 73 yJ6_bitCount_0f7a4 wsJ6_bitCount_0f7a4) := goodIn_app (goodIn_of _ (by decide +kernel)) ggX1_passesUnder_J6_bitCount_0f7a4
theorem dX1_passesUnder_0 : decode cX1_passesUnder 0 = .ok (.iload_n 1, 1) := by decide +kernel
theorem dX1_passesUnder_1 : decode cX1_passesUnder 1 = .ok (.aload_n 0, 1) := by decide +kernel
theorem dX1_passesUnder_2 : decode cX1_passesUnder 2 = .ok (.getfield 35, 3) := by decide +kernel
theorem dX1_passesUnder_5 : decode cX1_passesUnder 5 = .ok (.iand, 1) := by decide +kernel
theorem dX1_passesUnder_6 : decode cX1_passesUnder 6 = .ok (.invokestatic 73, 3) := by decide +kernel
theorem dX1_passesUnder_9 : decode cX1_passesUnder 9 = .ok (.iload_n 1, 1) := by decide +kernel
theorem dX1_passesUnder_10 : decode cX1_passesUnder 10 = .ok (.aload_n 0, 1) := by decide +kernel
theorem dX1_passesUnder_11 : decode cX1_passesUnder 11 = .ok (.getfield 35, 3) := by decide +kernel
theorem dX1_passesUnder_14 : decode cX1_passesUnder 14 = .ok (.iconst (-1), 1) := by decide +kernel
theorem dX1_passesUnder_15 : decode cX1_passesUnder 15 = .ok (.ixor, 1) := by decide +kernel
theorem dX1_passesUnder_16 : decode cX1_passesUnder 16 = .ok (.iand, 1) := by decide +kernel
theorem dX1_passesUnder_17 : decode cX1_passesUnder 17 = .ok (.invokestatic 73, 3) := by decide +kernel
theorem dX1_passesUnder_20 : decode cX1_passesUnder 20 = .ok (.if_icmp .le 7, 3) := by decide +kernel
theorem dX1_passesUnder_23 : decode cX1_passesUnder 23 = .ok (.iconst 1, 1) := by decide +kernel
theorem dX1_passesUnder_24 : decode cX1_passesUnder 24 = .ok (.goto 4, 3) := by decide +kernel
theorem dX1_passesUnder_27 : decode cX1_passesUnder 27 = .ok (.iconst 0, 1) := by decide +kernel
theorem dX1_passesUnder_28 : decode cX1_passesUnder 28 = .ok (.ireturn, 1) := by decide +kernel
set_option maxRecDepth 20000 in
theorem ggX1_passesByHalf_X1_drawsPassing : GoodIn wsX1_passesByHalf wsX1_drawsPassing := goodIn_r _ [6, 7, 8, 9, 5, 10, 11, 12, 13, 14, 15, 16, 17, 18, 19, 20, 21, 22, 23, 24, 25, 26, 27, 28, 29, 30, 31, 32, 33, 34, 35, 36, 37, 38, 39, 40, 41, 42, 43, 44, 45, 46, 47, 48, 49, 50, 51, 59, 60, 61, 62, 63, 64, 65] (by decide +kernel) (by decide +kernel)
set_option maxRecDepth 20000 in
theorem gX1_passesByHalf_X1_drawsPassing : GoodIn wsX1_passesByHalf (wsV RX1 80 RX1 yX1_drawsPassing wsX1_drawsPassing) := goodIn_app (goodIn_of _ (by decide +kernel)) ggX1_passesByHalf_X1_drawsPassing
set_option maxRecDepth 20000 in
theorem ggX1_passesByHalf_X1_draws : GoodIn wsX1_passesByHalf wsX1_draws := goodIn_r _ [55, 22, 17, 18, 19, 5, 20, 21, 23, 24, 25, 26, 56, 57, 58, 59, 60, 61, 62, 63, 64, 65] (by decide +kernel) (by decide +kernel)
set_option maxRecDepth 20000 in
theorem gX1_passesByHalf_X1_draws : GoodIn wsX1_passesByHalf (wsV RX1 84 RX1 yX1_draws wsX1_draws) := goodIn_app (goodIn_of _ (by decide +kernel)) ggX1_passesByHalf_X1_draws
theorem dX1_passesByHalf_0 : decode cX1_passesByHalf 0 = .ok (.ldc2_w 78, 3) := by decide +kernel
theorem dX1_passesByHalf_3 : decode cX1_passesByHalf 3 = .ok (.aload_n 0, 1) := by decide +kernel
theorem dX1_passesByHalf_4 : decode cX1_passesByHalf 4 = .ok (.invokevirtual 80, 3) := by decide +kernel
theorem dX1_passesByHalf_7 : decode cX1_passesByHalf 7 = .ok (.lmul, 1) := by decide +kernel
theorem dX1_passesByHalf_8 : decode cX1_passesByHalf 8 = .ok (.aload_n 0, 1) := by decide +kernel
theorem dX1_passesByHalf_9 : decode cX1_passesByHalf 9 = .ok (.invokevirtual 84, 3) := by decide +kernel
theorem dX1_passesByHalf_12 : decode cX1_passesByHalf 12 = .ok (.lcmp, 1) := by decide +kernel
theorem dX1_passesByHalf_13 : decode cX1_passesByHalf 13 = .ok (.ifCond .lt 7, 3) := by decide +kernel
theorem dX1_passesByHalf_16 : decode cX1_passesByHalf 16 = .ok (.iconst 1, 1) := by decide +kernel
theorem dX1_passesByHalf_17 : decode cX1_passesByHalf 17 = .ok (.goto 4, 3) := by decide +kernel
theorem dX1_passesByHalf_20 : decode cX1_passesByHalf 20 = .ok (.iconst 0, 1) := by decide +kernel
theorem dX1_passesByHalf_21 : decode cX1_passesByHalf 21 = .ok (.ireturn, 1) := by decide +kernel
set_option maxRecDepth 20000 in
theorem ggX1_canLeaveJust_X1_everybody : GoodIn wsX1_canLeaveJust wsX1_everybody := goodIn_r _ [6, 1, 29, 30, 31, 32, 33, 34, 35] (by decide +kernel) (by decide +kernel)
set_option maxRecDepth 20000 in
theorem gX1_canLeaveJust_X1_everybody : GoodIn wsX1_canLeaveJust (wsV RX1 63 RX1 yX1_everybody wsX1_everybody) := goodIn_app (goodIn_of _ (by decide +kernel)) ggX1_canLeaveJust_X1_everybody
set_option maxRecDepth 20000 in
theorem ggX1_canLeaveJust_X1_slipsOfOne : GoodIn wsX1_canLeaveJust wsX1_slipsOfOne := goodIn_r _ [10, 11, 29, 30, 31, 32, 33, 34, 35] (by decide +kernel) (by decide +kernel)
set_option maxRecDepth 20000 in
theorem gX1_canLeaveJust_X1_slipsOfOne : GoodIn wsX1_canLeaveJust (wsV RX1 56 RX1 yX1_slipsOfOne wsX1_slipsOfOne) := goodIn_app (goodIn_of _ (by decide +kernel)) ggX1_canLeaveJust_X1_slipsOfOne
set_option maxRecDepth 20000 in
theorem ggX1_canLeaveJust_J6_bitCount_0f7a4 : GoodIn wsX1_canLeaveJust wsJ6_bitCount_0f7a4 := goodIn_r _ [15, 16, 17, 18] (by decide +kernel) (by decide +kernel)
set_option maxRecDepth 20000 in
theorem gX1_canLeaveJust_J6_bitCount_0f7a4 : GoodIn wsX1_canLeaveJust (va_wsS RX1 73 yJ6_bitCount_0f7a4 wsJ6_bitCount_0f7a4) := goodIn_app (goodIn_of _ (by decide +kernel)) ggX1_canLeaveJust_J6_bitCount_0f7a4
set_option maxRecDepth 20000 in
theorem ggX1_canLeaveJust_X1_taken : GoodIn wsX1_canLeaveJust wsX1_taken := goodIn_r _ [22, 23, 24, 25, 26, 27, 28, 29, 30, 31, 32, 33, 34, 35] (by decide +kernel) (by decide +kernel)
set_option maxRecDepth 20000 in
theorem gX1_canLeaveJust_X1_taken : GoodIn wsX1_canLeaveJust (wsV RX1 52 RX1 yX1_taken wsX1_taken) := goodIn_app (goodIn_of _ (by decide +kernel)) ggX1_canLeaveJust_X1_taken
theorem dX1_canLeaveJust_0 : decode cX1_canLeaveJust 0 = .ok (.aload_n 0, 1) := by decide +kernel
theorem dX1_canLeaveJust_1 : decode cX1_canLeaveJust 1 = .ok (.invokevirtual 63, 3) := by decide +kernel
theorem dX1_canLeaveJust_4 : decode cX1_canLeaveJust 4 = .ok (.iload_n 1, 1) := by decide +kernel
theorem dX1_canLeaveJust_5 : decode cX1_canLeaveJust 5 = .ok (.iconst (-1), 1) := by decide +kernel
theorem dX1_canLeaveJust_6 : decode cX1_canLeaveJust 6 = .ok (.ixor, 1) := by decide +kernel
theorem dX1_canLeaveJust_7 : decode cX1_canLeaveJust 7 = .ok (.iand, 1) := by decide +kernel
theorem dX1_canLeaveJust_8 : decode cX1_canLeaveJust 8 = .ok (.istore_n 2, 1) := by decide +kernel
theorem dX1_canLeaveJust_9 : decode cX1_canLeaveJust 9 = .ok (.iconst 0, 1) := by decide +kernel
theorem dX1_canLeaveJust_10 : decode cX1_canLeaveJust 10 = .ok (.istore_n 3, 1) := by decide +kernel
theorem dX1_canLeaveJust_11 : decode cX1_canLeaveJust 11 = .ok (.iconst 0, 1) := by decide +kernel
theorem dX1_canLeaveJust_12 : decode cX1_canLeaveJust 12 = .ok (.istore 4, 2) := by decide +kernel
theorem dX1_canLeaveJust_14 : decode cX1_canLeaveJust 14 = .ok (.iload 4, 2) := by decide +kernel
theorem dX1_canLeaveJust_16 : decode cX1_canLeaveJust 16 = .ok (.aload_n 0, 1) := by decide +kernel
theorem dX1_canLeaveJust_17 : decode cX1_canLeaveJust 17 = .ok (.getfield 31, 3) := by decide +kernel
theorem dX1_canLeaveJust_20 : decode cX1_canLeaveJust 20 = .ok (.if_icmp .ge 28, 3) := by decide +kernel
theorem dX1_canLeaveJust_23 : decode cX1_canLeaveJust 23 = .ok (.iload_n 2, 1) := by decide +kernel
theorem dX1_canLeaveJust_24 : decode cX1_canLeaveJust 24 = .ok (.iload 4, 2) := by decide +kernel
theorem dX1_canLeaveJust_26 : decode cX1_canLeaveJust 26 = .ok (.ishr, 1) := by decide +kernel
theorem dX1_canLeaveJust_27 : decode cX1_canLeaveJust 27 = .ok (.iconst 1, 1) := by decide +kernel
theorem dX1_canLeaveJust_28 : decode cX1_canLeaveJust 28 = .ok (.iand, 1) := by decide +kernel
theorem dX1_canLeaveJust_29 : decode cX1_canLeaveJust 29 = .ok (.iconst 1, 1) := by decide +kernel
theorem dX1_canLeaveJust_30 : decode cX1_canLeaveJust 30 = .ok (.if_icmp .ne 12, 3) := by decide +kernel
theorem dX1_canLeaveJust_33 : decode cX1_canLeaveJust 33 = .ok (.iload_n 3, 1) := by decide +kernel
theorem dX1_canLeaveJust_34 : decode cX1_canLeaveJust 34 = .ok (.aload_n 0, 1) := by decide +kernel
theorem dX1_canLeaveJust_35 : decode cX1_canLeaveJust 35 = .ok (.iload 4, 2) := by decide +kernel
theorem dX1_canLeaveJust_37 : decode cX1_canLeaveJust 37 = .ok (.invokevirtual 56, 3) := by decide +kernel
theorem dX1_canLeaveJust_40 : decode cX1_canLeaveJust 40 = .ok (.iadd, 1) := by decide +kernel
theorem dX1_canLeaveJust_41 : decode cX1_canLeaveJust 41 = .ok (.istore_n 3, 1) := by decide +kernel
theorem dX1_canLeaveJust_42 : decode cX1_canLeaveJust 42 = .ok (.iinc 4 1, 3) := by decide +kernel
theorem dX1_canLeaveJust_45 : decode cX1_canLeaveJust 45 = .ok (.goto (-31), 3) := by decide +kernel
theorem dX1_canLeaveJust_48 : decode cX1_canLeaveJust 48 = .ok (.iload_n 2, 1) := by decide +kernel
theorem dX1_canLeaveJust_49 : decode cX1_canLeaveJust 49 = .ok (.invokestatic 73, 3) := by decide +kernel
theorem dX1_canLeaveJust_52 : decode cX1_canLeaveJust 52 = .ok (.aload_n 0, 1) := by decide +kernel
theorem dX1_canLeaveJust_53 : decode cX1_canLeaveJust 53 = .ok (.invokevirtual 52, 3) := by decide +kernel
theorem dX1_canLeaveJust_56 : decode cX1_canLeaveJust 56 = .ok (.if_icmp .gt 15, 3) := by decide +kernel
theorem dX1_canLeaveJust_59 : decode cX1_canLeaveJust 59 = .ok (.aload_n 0, 1) := by decide +kernel
theorem dX1_canLeaveJust_60 : decode cX1_canLeaveJust 60 = .ok (.invokevirtual 52, 3) := by decide +kernel
theorem dX1_canLeaveJust_63 : decode cX1_canLeaveJust 63 = .ok (.iload_n 3, 1) := by decide +kernel
theorem dX1_canLeaveJust_64 : decode cX1_canLeaveJust 64 = .ok (.if_icmp .gt 7, 3) := by decide +kernel
theorem dX1_canLeaveJust_67 : decode cX1_canLeaveJust 67 = .ok (.iconst 1, 1) := by decide +kernel
theorem dX1_canLeaveJust_68 : decode cX1_canLeaveJust 68 = .ok (.goto 4, 3) := by decide +kernel
theorem dX1_canLeaveJust_71 : decode cX1_canLeaveJust 71 = .ok (.iconst 0, 1) := by decide +kernel
theorem dX1_canLeaveJust_72 : decode cX1_canLeaveJust 72 = .ok (.ireturn, 1) := by decide +kernel
theorem dX1_everybody_0 : decode cX1_everybody 0 = .ok (.iconst 1, 1) := by decide +kernel
theorem dX1_everybody_1 : decode cX1_everybody 1 = .ok (.aload_n 0, 1) := by decide +kernel
theorem dX1_everybody_2 : decode cX1_everybody 2 = .ok (.getfield 31, 3) := by decide +kernel
theorem dX1_everybody_5 : decode cX1_everybody 5 = .ok (.ishl, 1) := by decide +kernel
theorem dX1_everybody_6 : decode cX1_everybody 6 = .ok (.iconst 1, 1) := by decide +kernel
theorem dX1_everybody_7 : decode cX1_everybody 7 = .ok (.isub, 1) := by decide +kernel
theorem dX1_everybody_8 : decode cX1_everybody 8 = .ok (.ireturn, 1) := by decide +kernel
theorem dX1_freeingBy_0 : decode cX1_freeingBy 0 = .ok (.iload_n 1, 1) := by decide +kernel
theorem dX1_freeingBy_1 : decode cX1_freeingBy 1 = .ok (.bipush 7, 2) := by decide +kernel
theorem dX1_freeingBy_3 : decode cX1_freeingBy 3 = .ok (.imul, 1) := by decide +kernel
theorem dX1_freeingBy_4 : decode cX1_freeingBy 4 = .ok (.iload_n 2, 1) := by decide +kernel
theorem dX1_freeingBy_5 : decode cX1_freeingBy 5 = .ok (.iadd, 1) := by decide +kernel
theorem dX1_freeingBy_6 : decode cX1_freeingBy 6 = .ok (.istore_n 3, 1) := by decide +kernel
theorem dX1_freeingBy_7 : decode cX1_freeingBy 7 = .ok (.iload_n 1, 1) := by decide +kernel
theorem dX1_freeingBy_8 : decode cX1_freeingBy 8 = .ok (.ifCond .lt 31, 3) := by decide +kernel
theorem dX1_freeingBy_11 : decode cX1_freeingBy 11 = .ok (.iload_n 2, 1) := by decide +kernel
theorem dX1_freeingBy_12 : decode cX1_freeingBy 12 = .ok (.ifCond .lt 27, 3) := by decide +kernel
theorem dX1_freeingBy_15 : decode cX1_freeingBy 15 = .ok (.iload_n 2, 1) := by decide +kernel
theorem dX1_freeingBy_16 : decode cX1_freeingBy 16 = .ok (.bipush 7, 2) := by decide +kernel
theorem dX1_freeingBy_18 : decode cX1_freeingBy 18 = .ok (.if_icmp .ge 21, 3) := by decide +kernel
theorem dX1_freeingBy_21 : decode cX1_freeingBy 21 = .ok (.iload_n 3, 1) := by decide +kernel
theorem dX1_freeingBy_22 : decode cX1_freeingBy 22 = .ok (.aload_n 0, 1) := by decide +kernel
theorem dX1_freeingBy_23 : decode cX1_freeingBy 23 = .ok (.getfield 19, 3) := by decide +kernel
theorem dX1_freeingBy_26 : decode cX1_freeingBy 26 = .ok (.arraylength, 1) := by decide +kernel
theorem dX1_freeingBy_27 : decode cX1_freeingBy 27 = .ok (.if_icmp .ge 12, 3) := by decide +kernel
theorem dX1_freeingBy_30 : decode cX1_freeingBy 30 = .ok (.aload_n 0, 1) := by decide +kernel
theorem dX1_freeingBy_31 : decode cX1_freeingBy 31 = .ok (.getfield 19, 3) := by decide +kernel
theorem dX1_freeingBy_34 : decode cX1_freeingBy 34 = .ok (.iload_n 3, 1) := by decide +kernel
theorem dX1_freeingBy_35 : decode cX1_freeingBy 35 = .ok (.laload, 1) := by decide +kernel
theorem dX1_freeingBy_36 : decode cX1_freeingBy 36 = .ok (.goto 4, 3) := by decide +kernel
theorem dX1_freeingBy_39 : decode cX1_freeingBy 39 = .ok (.lconst 0, 1) := by decide +kernel
theorem dX1_freeingBy_40 : decode cX1_freeingBy 40 = .ok (.lreturn, 1) := by decide +kernel
set_option maxRecDepth 20000 in
theorem ggX1_countFreeing_X1_countFreeingWith : GoodIn wsX1_countFreeing wsX1_countFreeingWith := goodIn_r _ [6, 7, 8, 9, 10, 5, 11, 12, 13, 14, 15, 16, 17, 18, 19, 20, 21, 22, 23, 24, 25, 26, 27, 28, 29, 30, 31, 32, 33, 34, 35, 36] (by decide +kernel) (by decide +kernel)
set_option maxRecDepth 20000 in
theorem gX1_countFreeing_X1_countFreeingWith : GoodIn wsX1_countFreeing (wsV RX1 87 RX1 yX1_countFreeingWith wsX1_countFreeingWith) := goodIn_app (goodIn_of _ (by decide +kernel)) ggX1_countFreeing_X1_countFreeingWith
theorem dX1_countFreeing_0 : decode cX1_countFreeing 0 = .ok (.iconst 0, 1) := by decide +kernel
theorem dX1_countFreeing_1 : decode cX1_countFreeing 1 = .ok (.istore_n 1, 1) := by decide +kernel
theorem dX1_countFreeing_2 : decode cX1_countFreeing 2 = .ok (.iload_n 1, 1) := by decide +kernel
theorem dX1_countFreeing_3 : decode cX1_countFreeing 3 = .ok (.aload_n 0, 1) := by decide +kernel
theorem dX1_countFreeing_4 : decode cX1_countFreeing 4 = .ok (.getfield 31, 3) := by decide +kernel
theorem dX1_countFreeing_7 : decode cX1_countFreeing 7 = .ok (.if_icmp .ge 30, 3) := by decide +kernel
theorem dX1_countFreeing_10 : decode cX1_countFreeing 10 = .ok (.iconst 0, 1) := by decide +kernel
theorem dX1_countFreeing_11 : decode cX1_countFreeing 11 = .ok (.istore_n 2, 1) := by decide +kernel
theorem dX1_countFreeing_12 : decode cX1_countFreeing 12 = .ok (.iload_n 2, 1) := by decide +kernel
theorem dX1_countFreeing_13 : decode cX1_countFreeing 13 = .ok (.iconst 1, 1) := by decide +kernel
theorem dX1_countFreeing_14 : decode cX1_countFreeing 14 = .ok (.iload_n 1, 1) := by decide +kernel
theorem dX1_countFreeing_15 : decode cX1_countFreeing 15 = .ok (.ishl, 1) := by decide +kernel
theorem dX1_countFreeing_16 : decode cX1_countFreeing 16 = .ok (.if_icmp .ge 15, 3) := by decide +kernel
theorem dX1_countFreeing_19 : decode cX1_countFreeing 19 = .ok (.aload_n 0, 1) := by decide +kernel
theorem dX1_countFreeing_20 : decode cX1_countFreeing 20 = .ok (.iload_n 2, 1) := by decide +kernel
theorem dX1_countFreeing_21 : decode cX1_countFreeing 21 = .ok (.iload_n 1, 1) := by decide +kernel
theorem dX1_countFreeing_22 : decode cX1_countFreeing 22 = .ok (.invokevirtual 87, 3) := by decide +kernel
theorem dX1_countFreeing_25 : decode cX1_countFreeing 25 = .ok (.iinc 2 1, 3) := by decide +kernel
theorem dX1_countFreeing_28 : decode cX1_countFreeing 28 = .ok (.goto (-16), 3) := by decide +kernel
theorem dX1_countFreeing_31 : decode cX1_countFreeing 31 = .ok (.iinc 1 1, 3) := by decide +kernel
theorem dX1_countFreeing_34 : decode cX1_countFreeing 34 = .ok (.goto (-32), 3) := by decide +kernel
theorem dX1_countFreeing_37 : decode cX1_countFreeing 37 = .ok (.return_, 1) := by decide +kernel
set_option maxRecDepth 20000 in
theorem ggX1_countFreeingWith_X1_taken : GoodIn wsX1_countFreeingWith wsX1_taken := goodIn_r _ [6, 7, 8, 9, 10, 11, 12, 25, 26, 27, 28, 29, 30, 31] (by decide +kernel) (by decide +kernel)
set_option maxRecDepth 20000 in
theorem gX1_countFreeingWith_X1_taken : GoodIn wsX1_countFreeingWith (wsV RX1 52 RX1 yX1_taken wsX1_taken) := goodIn_app (goodIn_of _ (by decide +kernel)) ggX1_countFreeingWith_X1_taken
set_option maxRecDepth 20000 in
theorem ggX1_countFreeingWith_J6_bitCount_0f7a4 : GoodIn wsX1_countFreeingWith wsJ6_bitCount_0f7a4 := goodIn_r _ [16, 17, 18, 19] (by decide +kernel) (by decide +kernel)
set_option maxRecDepth 20000 in
theorem gX1_countFreeingWith_J6_bitCount_0f7a4 : GoodIn wsX1_countFreeingWith (va_wsS RX1 73 yJ6_bitCount_0f7a4 wsJ6_bitCount_0f7a4) := goodIn_app (goodIn_of _ (by decide +kernel)) ggX1_countFreeingWith_J6_bitCount_0f7a4
set_option maxRecDepth 20000 in
theorem ggX1_countFreeingWith_X1_waysWithLast : GoodIn wsX1_countFreeingWith wsX1_waysWithLast := goodIn_r _ [23, 24, 1, 13, 14, 15, 16, 17, 18, 19, 25, 26, 27, 28, 29, 30, 31] (by decide +kernel) (by decide +kernel)
set_option maxRecDepth 20000 in
theorem gX1_countFreeingWith_X1_waysWithLast : GoodIn wsX1_countFreeingWith (wsV RX1 91 RX1 yX1_waysWithLast wsX1_waysWithLast) := goodIn_app (goodIn_of _ (by decide +kernel)) ggX1_countFreeingWith_X1_waysWithLast
theorem dX1_countFreeingWith_0 : decode cX1_countFreeingWith 0 = .ok (.aload_n 0, 1) := by decide +kernel
theorem dX1_countFreeingWith_1 : decode cX1_countFreeingWith 1 = .ok (.invokevirtual 52, 3) := by decide +kernel
theorem dX1_countFreeingWith_4 : decode cX1_countFreeingWith 4 = .ok (.istore_n 3, 1) := by decide +kernel
theorem dX1_countFreeingWith_5 : decode cX1_countFreeingWith 5 = .ok (.iload_n 1, 1) := by decide +kernel
theorem dX1_countFreeingWith_6 : decode cX1_countFreeingWith 6 = .ok (.iconst 1, 1) := by decide +kernel
theorem dX1_countFreeingWith_7 : decode cX1_countFreeingWith 7 = .ok (.iload_n 2, 1) := by decide +kernel
theorem dX1_countFreeingWith_8 : decode cX1_countFreeingWith 8 = .ok (.ishl, 1) := by decide +kernel
theorem dX1_countFreeingWith_9 : decode cX1_countFreeingWith 9 = .ok (.ior, 1) := by decide +kernel
theorem dX1_countFreeingWith_10 : decode cX1_countFreeingWith 10 = .ok (.istore 4, 2) := by decide +kernel
theorem dX1_countFreeingWith_12 : decode cX1_countFreeingWith 12 = .ok (.iload 4, 2) := by decide +kernel
theorem dX1_countFreeingWith_14 : decode cX1_countFreeingWith 14 = .ok (.invokestatic 73, 3) := by decide +kernel
theorem dX1_countFreeingWith_17 : decode cX1_countFreeingWith 17 = .ok (.istore 5, 2) := by decide +kernel
theorem dX1_countFreeingWith_19 : decode cX1_countFreeingWith 19 = .ok (.iload 5, 2) := by decide +kernel
theorem dX1_countFreeingWith_21 : decode cX1_countFreeingWith 21 = .ok (.iload_n 3, 1) := by decide +kernel
theorem dX1_countFreeingWith_22 : decode cX1_countFreeingWith 22 = .ok (.if_icmp .gt 56, 3) := by decide +kernel
theorem dX1_countFreeingWith_25 : decode cX1_countFreeingWith 25 = .ok (.iload 5, 2) := by decide +kernel
theorem dX1_countFreeingWith_27 : decode cX1_countFreeingWith 27 = .ok (.bipush 7, 2) := by decide +kernel
theorem dX1_countFreeingWith_29 : decode cX1_countFreeingWith 29 = .ok (.if_icmp .ge 49, 3) := by decide +kernel
theorem dX1_countFreeingWith_32 : decode cX1_countFreeingWith 32 = .ok (.iload 4, 2) := by decide +kernel
theorem dX1_countFreeingWith_34 : decode cX1_countFreeingWith 34 = .ok (.bipush 7, 2) := by decide +kernel
theorem dX1_countFreeingWith_36 : decode cX1_countFreeingWith 36 = .ok (.imul, 1) := by decide +kernel
theorem dX1_countFreeingWith_37 : decode cX1_countFreeingWith 37 = .ok (.iload 5, 2) := by decide +kernel
theorem dX1_countFreeingWith_39 : decode cX1_countFreeingWith 39 = .ok (.iadd, 1) := by decide +kernel
theorem dX1_countFreeingWith_40 : decode cX1_countFreeingWith 40 = .ok (.istore 6, 2) := by decide +kernel
theorem dX1_countFreeingWith_42 : decode cX1_countFreeingWith 42 = .ok (.iload 6, 2) := by decide +kernel
theorem dX1_countFreeingWith_44 : decode cX1_countFreeingWith 44 = .ok (.ifCond .lt 28, 3) := by decide +kernel
theorem dX1_countFreeingWith_47 : decode cX1_countFreeingWith 47 = .ok (.iload 6, 2) := by decide +kernel
theorem dX1_countFreeingWith_49 : decode cX1_countFreeingWith 49 = .ok (.aload_n 0, 1) := by decide +kernel
theorem dX1_countFreeingWith_50 : decode cX1_countFreeingWith 50 = .ok (.getfield 19, 3) := by decide +kernel
theorem dX1_countFreeingWith_53 : decode cX1_countFreeingWith 53 = .ok (.arraylength, 1) := by decide +kernel
theorem dX1_countFreeingWith_54 : decode cX1_countFreeingWith 54 = .ok (.if_icmp .ge 18, 3) := by decide +kernel
theorem dX1_countFreeingWith_57 : decode cX1_countFreeingWith 57 = .ok (.aload_n 0, 1) := by decide +kernel
theorem dX1_countFreeingWith_58 : decode cX1_countFreeingWith 58 = .ok (.getfield 19, 3) := by decide +kernel
theorem dX1_countFreeingWith_61 : decode cX1_countFreeingWith 61 = .ok (.iload 6, 2) := by decide +kernel
theorem dX1_countFreeingWith_63 : decode cX1_countFreeingWith 63 = .ok (.aload_n 0, 1) := by decide +kernel
theorem dX1_countFreeingWith_64 : decode cX1_countFreeingWith 64 = .ok (.iload_n 1, 1) := by decide +kernel
theorem dX1_countFreeingWith_65 : decode cX1_countFreeingWith 65 = .ok (.iload_n 2, 1) := by decide +kernel
theorem dX1_countFreeingWith_66 : decode cX1_countFreeingWith 66 = .ok (.iload 5, 2) := by decide +kernel
theorem dX1_countFreeingWith_68 : decode cX1_countFreeingWith 68 = .ok (.invokevirtual 91, 3) := by decide +kernel
theorem dX1_countFreeingWith_71 : decode cX1_countFreeingWith 71 = .ok (.lastore, 1) := by decide +kernel
theorem dX1_countFreeingWith_72 : decode cX1_countFreeingWith 72 = .ok (.iinc 5 1, 3) := by decide +kernel
theorem dX1_countFreeingWith_75 : decode cX1_countFreeingWith 75 = .ok (.goto (-56), 3) := by decide +kernel
theorem dX1_countFreeingWith_78 : decode cX1_countFreeingWith 78 = .ok (.return_, 1) := by decide +kernel
set_option maxRecDepth 20000 in
theorem ggX1_waysWithLast_J6_bitCount_0f7a4 : GoodIn wsX1_waysWithLast wsJ6_bitCount_0f7a4 := goodIn_r _ [6, 7, 8, 9] (by decide +kernel) (by decide +kernel)
set_option maxRecDepth 20000 in
theorem gX1_waysWithLast_J6_bitCount_0f7a4 : GoodIn wsX1_waysWithLast (va_wsS RX1 73 yJ6_bitCount_0f7a4 wsJ6_bitCount_0f7a4) := goodIn_app (goodIn_of _ (by decide +kernel)) ggX1_waysWithLast_J6_bitCount_0f7a4
theorem dX1_waysWithLast_0 : decode cX1_waysWithLast 0 = .ok (.iload_n 3, 1) := by decide +kernel
theorem dX1_waysWithLast_1 : decode cX1_waysWithLast 1 = .ok (.iload_n 1, 1) := by decide +kernel
theorem dX1_waysWithLast_2 : decode cX1_waysWithLast 2 = .ok (.invokestatic 73, 3) := by decide +kernel
theorem dX1_waysWithLast_5 : decode cX1_waysWithLast 5 = .ok (.isub, 1) := by decide +kernel
theorem dX1_waysWithLast_6 : decode cX1_waysWithLast 6 = .ok (.istore 4, 2) := by decide +kernel
theorem dX1_waysWithLast_8 : decode cX1_waysWithLast 8 = .ok (.lconst 0, 1) := by decide +kernel
theorem dX1_waysWithLast_9 : decode cX1_waysWithLast 9 = .ok (.lstore 5, 2) := by decide +kernel
theorem dX1_waysWithLast_11 : decode cX1_waysWithLast 11 = .ok (.iconst 1, 1) := by decide +kernel
theorem dX1_waysWithLast_12 : decode cX1_waysWithLast 12 = .ok (.istore 7, 2) := by decide +kernel
theorem dX1_waysWithLast_14 : decode cX1_waysWithLast 14 = .ok (.iload 7, 2) := by decide +kernel
theorem dX1_waysWithLast_16 : decode cX1_waysWithLast 16 = .ok (.iload 4, 2) := by decide +kernel
theorem dX1_waysWithLast_18 : decode cX1_waysWithLast 18 = .ok (.if_icmp .gt 79, 3) := by decide +kernel
theorem dX1_waysWithLast_21 : decode cX1_waysWithLast 21 = .ok (.iload_n 2, 1) := by decide +kernel
theorem dX1_waysWithLast_22 : decode cX1_waysWithLast 22 = .ok (.bipush 7, 2) := by decide +kernel
theorem dX1_waysWithLast_24 : decode cX1_waysWithLast 24 = .ok (.imul, 1) := by decide +kernel
theorem dX1_waysWithLast_25 : decode cX1_waysWithLast 25 = .ok (.iload 7, 2) := by decide +kernel
theorem dX1_waysWithLast_27 : decode cX1_waysWithLast 27 = .ok (.iadd, 1) := by decide +kernel
theorem dX1_waysWithLast_28 : decode cX1_waysWithLast 28 = .ok (.istore 8, 2) := by decide +kernel
theorem dX1_waysWithLast_30 : decode cX1_waysWithLast 30 = .ok (.iload_n 1, 1) := by decide +kernel
theorem dX1_waysWithLast_31 : decode cX1_waysWithLast 31 = .ok (.bipush 7, 2) := by decide +kernel
theorem dX1_waysWithLast_33 : decode cX1_waysWithLast 33 = .ok (.imul, 1) := by decide +kernel
theorem dX1_waysWithLast_34 : decode cX1_waysWithLast 34 = .ok (.iload_n 3, 1) := by decide +kernel
theorem dX1_waysWithLast_35 : decode cX1_waysWithLast 35 = .ok (.iadd, 1) := by decide +kernel
theorem dX1_waysWithLast_36 : decode cX1_waysWithLast 36 = .ok (.iload 7, 2) := by decide +kernel
theorem dX1_waysWithLast_38 : decode cX1_waysWithLast 38 = .ok (.isub, 1) := by decide +kernel
theorem dX1_waysWithLast_39 : decode cX1_waysWithLast 39 = .ok (.istore 9, 2) := by decide +kernel
theorem dX1_waysWithLast_41 : decode cX1_waysWithLast 41 = .ok (.iload 8, 2) := by decide +kernel
theorem dX1_waysWithLast_43 : decode cX1_waysWithLast 43 = .ok (.ifCond .lt 48, 3) := by decide +kernel
theorem dX1_waysWithLast_46 : decode cX1_waysWithLast 46 = .ok (.iload 8, 2) := by decide +kernel
theorem dX1_waysWithLast_48 : decode cX1_waysWithLast 48 = .ok (.aload_n 0, 1) := by decide +kernel
theorem dX1_waysWithLast_49 : decode cX1_waysWithLast 49 = .ok (.getfield 15, 3) := by decide +kernel
theorem dX1_waysWithLast_52 : decode cX1_waysWithLast 52 = .ok (.arraylength, 1) := by decide +kernel
theorem dX1_waysWithLast_53 : decode cX1_waysWithLast 53 = .ok (.if_icmp .ge 38, 3) := by decide +kernel
theorem dX1_waysWithLast_56 : decode cX1_waysWithLast 56 = .ok (.iload 9, 2) := by decide +kernel
theorem dX1_waysWithLast_58 : decode cX1_waysWithLast 58 = .ok (.ifCond .lt 33, 3) := by decide +kernel
theorem dX1_waysWithLast_61 : decode cX1_waysWithLast 61 = .ok (.iload 9, 2) := by decide +kernel
theorem dX1_waysWithLast_63 : decode cX1_waysWithLast 63 = .ok (.aload_n 0, 1) := by decide +kernel
theorem dX1_waysWithLast_64 : decode cX1_waysWithLast 64 = .ok (.getfield 19, 3) := by decide +kernel
theorem dX1_waysWithLast_67 : decode cX1_waysWithLast 67 = .ok (.arraylength, 1) := by decide +kernel
theorem dX1_waysWithLast_68 : decode cX1_waysWithLast 68 = .ok (.if_icmp .ge 23, 3) := by decide +kernel
theorem dX1_waysWithLast_71 : decode cX1_waysWithLast 71 = .ok (.lload 5, 2) := by decide +kernel
theorem dX1_waysWithLast_73 : decode cX1_waysWithLast 73 = .ok (.aload_n 0, 1) := by decide +kernel
theorem dX1_waysWithLast_74 : decode cX1_waysWithLast 74 = .ok (.getfield 15, 3) := by decide +kernel
theorem dX1_waysWithLast_77 : decode cX1_waysWithLast 77 = .ok (.iload 8, 2) := by decide +kernel
theorem dX1_waysWithLast_79 : decode cX1_waysWithLast 79 = .ok (.laload, 1) := by decide +kernel
theorem dX1_waysWithLast_80 : decode cX1_waysWithLast 80 = .ok (.aload_n 0, 1) := by decide +kernel
theorem dX1_waysWithLast_81 : decode cX1_waysWithLast 81 = .ok (.getfield 19, 3) := by decide +kernel
theorem dX1_waysWithLast_84 : decode cX1_waysWithLast 84 = .ok (.iload 9, 2) := by decide +kernel
theorem dX1_waysWithLast_86 : decode cX1_waysWithLast 86 = .ok (.laload, 1) := by decide +kernel
theorem dX1_waysWithLast_87 : decode cX1_waysWithLast 87 = .ok (.lmul, 1) := by decide +kernel
theorem dX1_waysWithLast_88 : decode cX1_waysWithLast 88 = .ok (.ladd, 1) := by decide +kernel
theorem dX1_waysWithLast_89 : decode cX1_waysWithLast 89 = .ok (.lstore 5, 2) := by decide +kernel
theorem dX1_waysWithLast_91 : decode cX1_waysWithLast 91 = .ok (.iinc 7 1, 3) := by decide +kernel
theorem dX1_waysWithLast_94 : decode cX1_waysWithLast 94 = .ok (.goto (-80), 3) := by decide +kernel
theorem dX1_waysWithLast_97 : decode cX1_waysWithLast 97 = .ok (.lload 5, 2) := by decide +kernel
theorem dX1_waysWithLast_99 : decode cX1_waysWithLast 99 = .ok (.lreturn, 1) := by decide +kernel
theorem dX1_choose_0 : decode cX1_choose 0 = .ok (.lconst 1, 1) := by decide +kernel
theorem dX1_choose_1 : decode cX1_choose 1 = .ok (.lstore_n 2, 1) := by decide +kernel
theorem dX1_choose_2 : decode cX1_choose 2 = .ok (.iconst 0, 1) := by decide +kernel
theorem dX1_choose_3 : decode cX1_choose 3 = .ok (.istore 4, 2) := by decide +kernel
theorem dX1_choose_5 : decode cX1_choose 5 = .ok (.iload 4, 2) := by decide +kernel
theorem dX1_choose_7 : decode cX1_choose 7 = .ok (.iload_n 1, 1) := by decide +kernel
theorem dX1_choose_8 : decode cX1_choose 8 = .ok (.if_icmp .ge 32, 3) := by decide +kernel
theorem dX1_choose_11 : decode cX1_choose 11 = .ok (.iload_n 0, 1) := by decide +kernel
theorem dX1_choose_12 : decode cX1_choose 12 = .ok (.iload 4, 2) := by decide +kernel
theorem dX1_choose_14 : decode cX1_choose 14 = .ok (.isub, 1) := by decide +kernel
theorem dX1_choose_15 : decode cX1_choose 15 = .ok (.ifCond .gt 5, 3) := by decide +kernel
theorem dX1_choose_18 : decode cX1_choose 18 = .ok (.lconst 0, 1) := by decide +kernel
theorem dX1_choose_19 : decode cX1_choose 19 = .ok (.lreturn, 1) := by decide +kernel
theorem dX1_choose_20 : decode cX1_choose 20 = .ok (.lload_n 2, 1) := by decide +kernel
theorem dX1_choose_21 : decode cX1_choose 21 = .ok (.iload_n 0, 1) := by decide +kernel
theorem dX1_choose_22 : decode cX1_choose 22 = .ok (.iload 4, 2) := by decide +kernel
theorem dX1_choose_24 : decode cX1_choose 24 = .ok (.isub, 1) := by decide +kernel
theorem dX1_choose_25 : decode cX1_choose 25 = .ok (.i2l, 1) := by decide +kernel
theorem dX1_choose_26 : decode cX1_choose 26 = .ok (.lmul, 1) := by decide +kernel
theorem dX1_choose_27 : decode cX1_choose 27 = .ok (.iload 4, 2) := by decide +kernel
theorem dX1_choose_29 : decode cX1_choose 29 = .ok (.iconst 1, 1) := by decide +kernel
theorem dX1_choose_30 : decode cX1_choose 30 = .ok (.iadd, 1) := by decide +kernel
theorem dX1_choose_31 : decode cX1_choose 31 = .ok (.i2l, 1) := by decide +kernel
theorem dX1_choose_32 : decode cX1_choose 32 = .ok (.ldiv, 1) := by decide +kernel
theorem dX1_choose_33 : decode cX1_choose 33 = .ok (.lstore_n 2, 1) := by decide +kernel
theorem dX1_choose_34 : decode cX1_choose 34 = .ok (.iinc 4 1, 3) := by decide +kernel
theorem dX1_choose_37 : decode cX1_choose 37 = .ok (.goto (-32), 3) := by decide +kernel
theorem dX1_choose_40 : decode cX1_choose 40 = .ok (.lload_n 2, 1) := by decide +kernel
theorem dX1_choose_41 : decode cX1_choose 41 = .ok (.lreturn, 1) := by decide +kernel
theorem dX2_init_0 : decode cX2_init 0 = .ok (.aload_n 0, 1) := by decide +kernel
theorem dX2_init_1 : decode cX2_init 1 = .ok (.invokespecial 3, 3) := by decide +kernel
theorem dX2_init_4 : decode cX2_init 4 = .ok (.aload_n 0, 1) := by decide +kernel
theorem dX2_init_5 : decode cX2_init 5 = .ok (.bipush 60, 2) := by decide +kernel
theorem dX2_init_7 : decode cX2_init 7 = .ok (.newarray .int, 2) := by decide +kernel
theorem dX2_init_9 : decode cX2_init 9 = .ok (.putfield 9, 3) := by decide +kernel
theorem dX2_init_12 : decode cX2_init 12 = .ok (.return_, 1) := by decide +kernel
theorem dX2_begin_0 : decode cX2_begin 0 = .ok (.aload_n 0, 1) := by decide +kernel
theorem dX2_begin_1 : decode cX2_begin 1 = .ok (.iconst 1, 1) := by decide +kernel
theorem dX2_begin_2 : decode cX2_begin 2 = .ok (.putfield 15, 3) := by decide +kernel
theorem dX2_begin_5 : decode cX2_begin 5 = .ok (.aload_n 0, 1) := by decide +kernel
theorem dX2_begin_6 : decode cX2_begin 6 = .ok (.iload_n 1, 1) := by decide +kernel
theorem dX2_begin_7 : decode cX2_begin 7 = .ok (.putfield 19, 3) := by decide +kernel
theorem dX2_begin_10 : decode cX2_begin 10 = .ok (.aload_n 0, 1) := by decide +kernel
theorem dX2_begin_11 : decode cX2_begin 11 = .ok (.iconst 0, 1) := by decide +kernel
theorem dX2_begin_12 : decode cX2_begin 12 = .ok (.iload_n 2, 1) := by decide +kernel
theorem dX2_begin_13 : decode cX2_begin 13 = .ok (.aload_n 0, 1) := by decide +kernel
theorem dX2_begin_14 : decode cX2_begin 14 = .ok (.getfield 9, 3) := by decide +kernel
theorem dX2_begin_17 : decode cX2_begin 17 = .ok (.arraylength, 1) := by decide +kernel
theorem dX2_begin_18 : decode cX2_begin 18 = .ok (.invokestatic 23, 3) := by decide +kernel
theorem dX2_begin_21 : decode cX2_begin 21 = .ok (.invokestatic 29, 3) := by decide +kernel
theorem dX2_begin_24 : decode cX2_begin 24 = .ok (.putfield 32, 3) := by decide +kernel
theorem dX2_begin_27 : decode cX2_begin 27 = .ok (.iconst 0, 1) := by decide +kernel
theorem dX2_begin_28 : decode cX2_begin 28 = .ok (.istore_n 3, 1) := by decide +kernel
theorem dX2_begin_29 : decode cX2_begin 29 = .ok (.iload_n 3, 1) := by decide +kernel
theorem dX2_begin_30 : decode cX2_begin 30 = .ok (.aload_n 0, 1) := by decide +kernel
theorem dX2_begin_31 : decode cX2_begin 31 = .ok (.getfield 9, 3) := by decide +kernel
theorem dX2_begin_34 : decode cX2_begin 34 = .ok (.arraylength, 1) := by decide +kernel
theorem dX2_begin_35 : decode cX2_begin 35 = .ok (.if_icmp .ge 16, 3) := by decide +kernel
theorem dX2_begin_38 : decode cX2_begin 38 = .ok (.aload_n 0, 1) := by decide +kernel
theorem dX2_begin_39 : decode cX2_begin 39 = .ok (.getfield 9, 3) := by decide +kernel
theorem dX2_begin_42 : decode cX2_begin 42 = .ok (.iload_n 3, 1) := by decide +kernel
theorem dX2_begin_43 : decode cX2_begin 43 = .ok (.iconst 0, 1) := by decide +kernel
theorem dX2_begin_44 : decode cX2_begin 44 = .ok (.iastore, 1) := by decide +kernel
theorem dX2_begin_45 : decode cX2_begin 45 = .ok (.iinc 3 1, 3) := by decide +kernel
theorem dX2_begin_48 : decode cX2_begin 48 = .ok (.goto (-19), 3) := by decide +kernel
theorem dX2_begin_51 : decode cX2_begin 51 = .ok (.return_, 1) := by decide +kernel
theorem dX2_end_0 : decode cX2_end 0 = .ok (.aload_n 0, 1) := by decide +kernel
theorem dX2_end_1 : decode cX2_end 1 = .ok (.iconst 0, 1) := by decide +kernel
theorem dX2_end_2 : decode cX2_end 2 = .ok (.putfield 15, 3) := by decide +kernel
theorem dX2_end_5 : decode cX2_end 5 = .ok (.return_, 1) := by decide +kernel
theorem dX2_holds_0 : decode cX2_holds 0 = .ok (.iload_n 1, 1) := by decide +kernel
theorem dX2_holds_1 : decode cX2_holds 1 = .ok (.ifCond .lt 29, 3) := by decide +kernel
theorem dX2_holds_4 : decode cX2_holds 4 = .ok (.iload_n 2, 1) := by decide +kernel
theorem dX2_holds_5 : decode cX2_holds 5 = .ok (.ifCond .lt 25, 3) := by decide +kernel
theorem dX2_holds_8 : decode cX2_holds 8 = .ok (.iload_n 1, 1) := by decide +kernel
theorem dX2_holds_9 : decode cX2_holds 9 = .ok (.aload_n 0, 1) := by decide +kernel
theorem dX2_holds_10 : decode cX2_holds 10 = .ok (.getfield 32, 3) := by decide +kernel
theorem dX2_holds_13 : decode cX2_holds 13 = .ok (.if_icmp .gt 17, 3) := by decide +kernel
theorem dX2_holds_16 : decode cX2_holds 16 = .ok (.iload_n 2, 1) := by decide +kernel
theorem dX2_holds_17 : decode cX2_holds 17 = .ok (.aload_n 0, 1) := by decide +kernel
theorem dX2_holds_18 : decode cX2_holds 18 = .ok (.getfield 32, 3) := by decide +kernel
theorem dX2_holds_21 : decode cX2_holds 21 = .ok (.iload_n 1, 1) := by decide +kernel
theorem dX2_holds_22 : decode cX2_holds 22 = .ok (.isub, 1) := by decide +kernel
theorem dX2_holds_23 : decode cX2_holds 23 = .ok (.if_icmp .gt 7, 3) := by decide +kernel
theorem dX2_holds_26 : decode cX2_holds 26 = .ok (.iconst 1, 1) := by decide +kernel
theorem dX2_holds_27 : decode cX2_holds 27 = .ok (.goto 4, 3) := by decide +kernel
theorem dX2_holds_30 : decode cX2_holds 30 = .ok (.iconst 0, 1) := by decide +kernel
theorem dX2_holds_31 : decode cX2_holds 31 = .ok (.ireturn, 1) := by decide +kernel
theorem dX2_at_0 : decode cX2_at 0 = .ok (.iload_n 1, 1) := by decide +kernel
theorem dX2_at_1 : decode cX2_at 1 = .ok (.ifCond .lt 21, 3) := by decide +kernel
theorem dX2_at_4 : decode cX2_at 4 = .ok (.iload_n 1, 1) := by decide +kernel
theorem dX2_at_5 : decode cX2_at 5 = .ok (.aload_n 0, 1) := by decide +kernel
theorem dX2_at_6 : decode cX2_at 6 = .ok (.getfield 9, 3) := by decide +kernel
theorem dX2_at_9 : decode cX2_at 9 = .ok (.arraylength, 1) := by decide +kernel
theorem dX2_at_10 : decode cX2_at 10 = .ok (.if_icmp .ge 12, 3) := by decide +kernel
theorem dX2_at_13 : decode cX2_at 13 = .ok (.aload_n 0, 1) := by decide +kernel
theorem dX2_at_14 : decode cX2_at 14 = .ok (.getfield 9, 3) := by decide +kernel
theorem dX2_at_17 : decode cX2_at 17 = .ok (.iload_n 1, 1) := by decide +kernel
theorem dX2_at_18 : decode cX2_at 18 = .ok (.iaload, 1) := by decide +kernel
theorem dX2_at_19 : decode cX2_at 19 = .ok (.goto 4, 3) := by decide +kernel
theorem dX2_at_22 : decode cX2_at 22 = .ok (.iconst 0, 1) := by decide +kernel
theorem dX2_at_23 : decode cX2_at 23 = .ok (.ireturn, 1) := by decide +kernel
set_option maxRecDepth 20000 in
theorem ggX2_set_X2_cut : GoodIn wsX2_set wsX2_cut := goodIn_r _ [6, 7, 8, 9, 10, 11] (by decide +kernel) (by decide +kernel)
set_option maxRecDepth 20000 in
theorem gX2_set_X2_cut : GoodIn wsX2_set (wsV RX2 35 RX2 yX2_cut wsX2_cut) := goodIn_app (goodIn_of _ (by decide +kernel)) ggX2_set_X2_cut
theorem dX2_set_0 : decode cX2_set 0 = .ok (.iload_n 1, 1) := by decide +kernel
theorem dX2_set_1 : decode cX2_set 1 = .ok (.ifCond .lt 23, 3) := by decide +kernel
theorem dX2_set_4 : decode cX2_set 4 = .ok (.iload_n 1, 1) := by decide +kernel
theorem dX2_set_5 : decode cX2_set 5 = .ok (.aload_n 0, 1) := by decide +kernel
theorem dX2_set_6 : decode cX2_set 6 = .ok (.getfield 9, 3) := by decide +kernel
theorem dX2_set_9 : decode cX2_set 9 = .ok (.arraylength, 1) := by decide +kernel
theorem dX2_set_10 : decode cX2_set 10 = .ok (.if_icmp .ge 14, 3) := by decide +kernel
theorem dX2_set_13 : decode cX2_set 13 = .ok (.aload_n 0, 1) := by decide +kernel
theorem dX2_set_14 : decode cX2_set 14 = .ok (.getfield 9, 3) := by decide +kernel
theorem dX2_set_17 : decode cX2_set 17 = .ok (.iload_n 1, 1) := by decide +kernel
theorem dX2_set_18 : decode cX2_set 18 = .ok (.aload_n 0, 1) := by decide +kernel
theorem dX2_set_19 : decode cX2_set 19 = .ok (.iload_n 2, 1) := by decide +kernel
theorem dX2_set_20 : decode cX2_set 20 = .ok (.invokevirtual 35, 3) := by decide +kernel
theorem dX2_set_23 : decode cX2_set 23 = .ok (.iastore, 1) := by decide +kernel
theorem dX2_set_24 : decode cX2_set 24 = .ok (.return_, 1) := by decide +kernel
theorem dX2_cut_0 : decode cX2_cut 0 = .ok (.aload_n 0, 1) := by decide +kernel
theorem dX2_cut_1 : decode cX2_cut 1 = .ok (.getfield 19, 3) := by decide +kernel
theorem dX2_cut_4 : decode cX2_cut 4 = .ok (.lookupswitch 34 #[(0, 28), (1, 31)], 28) := by decide +kernel
theorem dX2_cut_32 : decode cX2_cut 32 = .ok (.iload_n 1, 1) := by decide +kernel
theorem dX2_cut_33 : decode cX2_cut 33 = .ok (.i2b, 1) := by decide +kernel
theorem dX2_cut_34 : decode cX2_cut 34 = .ok (.ireturn, 1) := by decide +kernel
theorem dX2_cut_35 : decode cX2_cut 35 = .ok (.iload_n 1, 1) := by decide +kernel
theorem dX2_cut_36 : decode cX2_cut 36 = .ok (.i2s, 1) := by decide +kernel
theorem dX2_cut_37 : decode cX2_cut 37 = .ok (.ireturn, 1) := by decide +kernel
theorem dX2_cut_38 : decode cX2_cut 38 = .ok (.iload_n 1, 1) := by decide +kernel
theorem dX2_cut_39 : decode cX2_cut 39 = .ok (.ireturn, 1) := by decide +kernel
set_option maxRecDepth 20000 in
theorem ggX2_has_X2_at : GoodIn wsX2_has wsX2_at := goodIn_r _ [5, 6, 7, 8, 9, 10] (by decide +kernel) (by decide +kernel)
set_option maxRecDepth 20000 in
theorem gX2_has_X2_at : GoodIn wsX2_has (wsV RX2 39 RX2 yX2_at wsX2_at) := goodIn_app (goodIn_of _ (by decide +kernel)) ggX2_has_X2_at
theorem dX2_has_0 : decode cX2_has 0 = .ok (.iconst 0, 1) := by decide +kernel
theorem dX2_has_1 : decode cX2_has 1 = .ok (.istore 4, 2) := by decide +kernel
theorem dX2_has_3 : decode cX2_has 3 = .ok (.iload 4, 2) := by decide +kernel
theorem dX2_has_5 : decode cX2_has 5 = .ok (.iload_n 3, 1) := by decide +kernel
theorem dX2_has_6 : decode cX2_has 6 = .ok (.if_icmp .ge 23, 3) := by decide +kernel
theorem dX2_has_9 : decode cX2_has 9 = .ok (.aload_n 0, 1) := by decide +kernel
theorem dX2_has_10 : decode cX2_has 10 = .ok (.iload_n 2, 1) := by decide +kernel
theorem dX2_has_11 : decode cX2_has 11 = .ok (.iload 4, 2) := by decide +kernel
theorem dX2_has_13 : decode cX2_has 13 = .ok (.iadd, 1) := by decide +kernel
theorem dX2_has_14 : decode cX2_has 14 = .ok (.invokevirtual 39, 3) := by decide +kernel
theorem dX2_has_17 : decode cX2_has 17 = .ok (.iload_n 1, 1) := by decide +kernel
theorem dX2_has_18 : decode cX2_has 18 = .ok (.if_icmp .ne 5, 3) := by decide +kernel
theorem dX2_has_21 : decode cX2_has 21 = .ok (.iconst 1, 1) := by decide +kernel
theorem dX2_has_22 : decode cX2_has 22 = .ok (.ireturn, 1) := by decide +kernel
theorem dX2_has_23 : decode cX2_has 23 = .ok (.iinc 4 1, 3) := by decide +kernel
theorem dX2_has_26 : decode cX2_has 26 = .ok (.goto (-23), 3) := by decide +kernel
theorem dX2_has_29 : decode cX2_has 29 = .ok (.iconst 0, 1) := by decide +kernel
theorem dX2_has_30 : decode cX2_has 30 = .ok (.ireturn, 1) := by decide +kernel
set_option maxRecDepth 20000 in
theorem ggX3_firstFault_X2_at : GoodIn wsX3_firstFault wsX2_at := goodIn_r _ [4, 5, 16, 17, 18, 19] (by decide +kernel) (by decide +kernel)
set_option maxRecDepth 20000 in
theorem gX3_firstFault_X2_at_n9 : GoodIn wsX3_firstFault (wsX2_at) := ggX3_firstFault_X2_at
set_option maxRecDepth 20000 in
theorem ggX3_firstFault_X3_goesOnWith : GoodIn wsX3_firstFault wsX3_goesOnWith := goodIn_r _ [9, 10, 11, 8, 12, 13, 14, 15] (by decide +kernel) (by decide +kernel)
set_option maxRecDepth 20000 in
theorem gX3_firstFault_X3_goesOnWith : GoodIn wsX3_firstFault (va_wsS RX3 15 yX3_goesOnWith wsX3_goesOnWith) := goodIn_app (goodIn_of _ (by decide +kernel)) ggX3_firstFault_X3_goesOnWith
theorem dX3_firstFault_0 : decode cX3_firstFault 0 = .ok (.iconst 0, 1) := by decide +kernel
theorem dX3_firstFault_1 : decode cX3_firstFault 1 = .ok (.istore_n 3, 1) := by decide +kernel
theorem dX3_firstFault_2 : decode cX3_firstFault 2 = .ok (.iload_n 3, 1) := by decide +kernel
theorem dX3_firstFault_3 : decode cX3_firstFault 3 = .ok (.iload_n 2, 1) := by decide +kernel
theorem dX3_firstFault_4 : decode cX3_firstFault 4 = .ok (.if_icmp .ge 25, 3) := by decide +kernel
theorem dX3_firstFault_7 : decode cX3_firstFault 7 = .ok (.aload_n 0, 1) := by decide +kernel
theorem dX3_firstFault_8 : decode cX3_firstFault 8 = .ok (.iload_n 1, 1) := by decide +kernel
theorem dX3_firstFault_9 : decode cX3_firstFault 9 = .ok (.iload_n 3, 1) := by decide +kernel
theorem dX3_firstFault_10 : decode cX3_firstFault 10 = .ok (.iadd, 1) := by decide +kernel
theorem dX3_firstFault_11 : decode cX3_firstFault 11 = .ok (.invokevirtual 9, 3) := by decide +kernel
theorem dX3_firstFault_14 : decode cX3_firstFault 14 = .ok (.iload_n 3, 1) := by decide +kernel
theorem dX3_firstFault_15 : decode cX3_firstFault 15 = .ok (.invokestatic 15, 3) := by decide +kernel
theorem dX3_firstFault_18 : decode cX3_firstFault 18 = .ok (.ifCond .ne 5, 3) := by decide +kernel
theorem dX3_firstFault_21 : decode cX3_firstFault 21 = .ok (.iload_n 3, 1) := by decide +kernel
theorem dX3_firstFault_22 : decode cX3_firstFault 22 = .ok (.ireturn, 1) := by decide +kernel
theorem dX3_firstFault_23 : decode cX3_firstFault 23 = .ok (.iinc 3 1, 3) := by decide +kernel
theorem dX3_firstFault_26 : decode cX3_firstFault 26 = .ok (.goto (-24), 3) := by decide +kernel
theorem dX3_firstFault_29 : decode cX3_firstFault 29 = .ok (.iload_n 2, 1) := by decide +kernel
theorem dX3_firstFault_30 : decode cX3_firstFault 30 = .ok (.bipush 9, 2) := by decide +kernel
theorem dX3_firstFault_32 : decode cX3_firstFault 32 = .ok (.if_icmp .lt 16, 3) := by decide +kernel
theorem dX3_firstFault_35 : decode cX3_firstFault 35 = .ok (.iload_n 2, 1) := by decide +kernel
theorem dX3_firstFault_36 : decode cX3_firstFault 36 = .ok (.iconst 3, 1) := by decide +kernel
theorem dX3_firstFault_37 : decode cX3_firstFault 37 = .ok (.isub, 1) := by decide +kernel
theorem dX3_firstFault_38 : decode cX3_firstFault 38 = .ok (.bipush 6, 2) := by decide +kernel
theorem dX3_firstFault_40 : decode cX3_firstFault 40 = .ok (.irem, 1) := by decide +kernel
theorem dX3_firstFault_41 : decode cX3_firstFault 41 = .ok (.ifCond .ne 7, 3) := by decide +kernel
theorem dX3_firstFault_44 : decode cX3_firstFault 44 = .ok (.iconst 1, 1) := by decide +kernel
theorem dX3_firstFault_45 : decode cX3_firstFault 45 = .ok (.goto 4, 3) := by decide +kernel
theorem dX3_firstFault_48 : decode cX3_firstFault 48 = .ok (.iconst 0, 1) := by decide +kernel
theorem dX3_firstFault_49 : decode cX3_firstFault 49 = .ok (.istore_n 3, 1) := by decide +kernel
theorem dX3_firstFault_50 : decode cX3_firstFault 50 = .ok (.iload_n 3, 1) := by decide +kernel
theorem dX3_firstFault_51 : decode cX3_firstFault 51 = .ok (.ifCond .eq 8, 3) := by decide +kernel
theorem dX3_firstFault_54 : decode cX3_firstFault 54 = .ok (.bipush (-9), 2) := by decide +kernel
theorem dX3_firstFault_56 : decode cX3_firstFault 56 = .ok (.goto 4, 3) := by decide +kernel
theorem dX3_firstFault_59 : decode cX3_firstFault 59 = .ok (.iload_n 2, 1) := by decide +kernel
theorem dX3_firstFault_60 : decode cX3_firstFault 60 = .ok (.ireturn, 1) := by decide +kernel
set_option maxRecDepth 20000 in
theorem ggX3_goesOnWith_X3_isDigit : GoodIn wsX3_goesOnWith wsX3_isDigit := goodIn_r _ [4] (by decide +kernel) (by decide +kernel)
set_option maxRecDepth 20000 in
theorem gX3_goesOnWith_X3_isDigit : GoodIn wsX3_goesOnWith (va_wsS RX3 21 yX3_isDigit wsX3_isDigit) := goodIn_app (goodIn_of _ (by decide +kernel)) ggX3_goesOnWith_X3_isDigit
set_option maxRecDepth 20000 in
theorem ggX3_goesOnWith_X3_citizenGoesOnWith : GoodIn wsX3_goesOnWith wsX3_citizenGoesOnWith := goodIn_r _ [7, 1, 2, 3, 4] (by decide +kernel) (by decide +kernel)
set_option maxRecDepth 20000 in
theorem gX3_goesOnWith_X3_citizenGoesOnWith : GoodIn wsX3_goesOnWith (va_wsS RX3 25 yX3_citizenGoesOnWith wsX3_citizenGoesOnWith) := goodIn_app (goodIn_of _ (by decide +kernel)) ggX3_goesOnWith_X3_citizenGoesOnWith
theorem dX3_goesOnWith_0 : decode cX3_goesOnWith 0 = .ok (.iload_n 1, 1) := by decide +kernel
theorem dX3_goesOnWith_1 : decode cX3_goesOnWith 1 = .ok (.tableswitch 55 0 2 #[27, 39, 47], 27) := by decide +kernel
theorem dX3_goesOnWith_28 : decode cX3_goesOnWith 28 = .ok (.iload_n 0, 1) := by decide +kernel
theorem dX3_goesOnWith_29 : decode cX3_goesOnWith 29 = .ok (.bipush 108, 2) := by decide +kernel
theorem dX3_goesOnWith_31 : decode cX3_goesOnWith 31 = .ok (.if_icmp .ne 7, 3) := by decide +kernel
theorem dX3_goesOnWith_34 : decode cX3_goesOnWith 34 = .ok (.iconst 1, 1) := by decide +kernel
theorem dX3_goesOnWith_35 : decode cX3_goesOnWith 35 = .ok (.goto 4, 3) := by decide +kernel
theorem dX3_goesOnWith_38 : decode cX3_goesOnWith 38 = .ok (.iconst 0, 1) := by decide +kernel
theorem dX3_goesOnWith_39 : decode cX3_goesOnWith 39 = .ok (.ireturn, 1) := by decide +kernel
theorem dX3_goesOnWith_40 : decode cX3_goesOnWith 40 = .ok (.iload_n 0, 1) := by decide +kernel
theorem dX3_goesOnWith_41 : decode cX3_goesOnWith 41 = .ok (.iconst 0, 1) := by decide +kernel
theorem dX3_goesOnWith_42 : decode cX3_goesOnWith 42 = .ok (.bipush 6, 2) := by decide +kernel
theorem dX3_goesOnWith_44 : decode cX3_goesOnWith 44 = .ok (.invokestatic 21, 3) := by decide +kernel
theorem dX3_goesOnWith_47 : decode cX3_goesOnWith 47 = .ok (.ireturn, 1) := by decide +kernel
theorem dX3_goesOnWith_48 : decode cX3_goesOnWith 48 = .ok (.iload_n 0, 1) := by decide +kernel
theorem dX3_goesOnWith_49 : decode cX3_goesOnWith 49 = .ok (.iconst 1, 1) := by decide +kernel
theorem dX3_goesOnWith_50 : decode cX3_goesOnWith 50 = .ok (.bipush 9, 2) := by decide +kernel
theorem dX3_goesOnWith_52 : decode cX3_goesOnWith 52 = .ok (.invokestatic 21, 3) := by decide +kernel
theorem dX3_goesOnWith_55 : decode cX3_goesOnWith 55 = .ok (.ireturn, 1) := by decide +kernel
theorem dX3_goesOnWith_56 : decode cX3_goesOnWith 56 = .ok (.iload_n 1, 1) := by decide +kernel
theorem dX3_goesOnWith_57 : decode cX3_goesOnWith 57 = .ok (.bipush 39, 2) := by decide +kernel
theorem dX3_goesOnWith_59 : decode cX3_goesOnWith 59 = .ok (.if_icmp .ge 20, 3) := by decide +kernel
theorem dX3_goesOnWith_62 : decode cX3_goesOnWith 62 = .ok (.iload_n 0, 1) := by decide +kernel
theorem dX3_goesOnWith_63 : decode cX3_goesOnWith 63 = .ok (.iload_n 1, 1) := by decide +kernel
theorem dX3_goesOnWith_64 : decode cX3_goesOnWith 64 = .ok (.iconst 3, 1) := by decide +kernel
theorem dX3_goesOnWith_65 : decode cX3_goesOnWith 65 = .ok (.isub, 1) := by decide +kernel
theorem dX3_goesOnWith_66 : decode cX3_goesOnWith 66 = .ok (.bipush 6, 2) := by decide +kernel
theorem dX3_goesOnWith_68 : decode cX3_goesOnWith 68 = .ok (.irem, 1) := by decide +kernel
theorem dX3_goesOnWith_69 : decode cX3_goesOnWith 69 = .ok (.invokestatic 25, 3) := by decide +kernel
theorem dX3_goesOnWith_72 : decode cX3_goesOnWith 72 = .ok (.ifCond .eq 7, 3) := by decide +kernel
theorem dX3_goesOnWith_75 : decode cX3_goesOnWith 75 = .ok (.iconst 1, 1) := by decide +kernel
theorem dX3_goesOnWith_76 : decode cX3_goesOnWith 76 = .ok (.goto 4, 3) := by decide +kernel
theorem dX3_goesOnWith_79 : decode cX3_goesOnWith 79 = .ok (.iconst 0, 1) := by decide +kernel
theorem dX3_goesOnWith_80 : decode cX3_goesOnWith 80 = .ok (.ireturn, 1) := by decide +kernel
set_option maxRecDepth 20000 in
theorem ggX3_citizenGoesOnWith_X3_isDigit : GoodIn wsX3_citizenGoesOnWith wsX3_isDigit := goodIn_r _ [4] (by decide +kernel) (by decide +kernel)
set_option maxRecDepth 20000 in
theorem gX3_citizenGoesOnWith_X3_isDigit : GoodIn wsX3_citizenGoesOnWith (va_wsS RX3 21 yX3_isDigit wsX3_isDigit) := goodIn_app (goodIn_of _ (by decide +kernel)) ggX3_citizenGoesOnWith_X3_isDigit
theorem dX3_citizenGoesOnWith_0 : decode cX3_citizenGoesOnWith 0 = .ok (.iload_n 1, 1) := by decide +kernel
theorem dX3_citizenGoesOnWith_1 : decode cX3_citizenGoesOnWith 1 = .ok (.tableswitch 87 0 4 #[35, 47, 71, 79, 79], 35) := by decide +kernel
theorem dX3_citizenGoesOnWith_36 : decode cX3_citizenGoesOnWith 36 = .ok (.iload_n 0, 1) := by decide +kernel
theorem dX3_citizenGoesOnWith_37 : decode cX3_citizenGoesOnWith 37 = .ok (.bipush 59, 2) := by decide +kernel
theorem dX3_citizenGoesOnWith_39 : decode cX3_citizenGoesOnWith 39 = .ok (.if_icmp .ne 7, 3) := by decide +kernel
theorem dX3_citizenGoesOnWith_42 : decode cX3_citizenGoesOnWith 42 = .ok (.iconst 1, 1) := by decide +kernel
theorem dX3_citizenGoesOnWith_43 : decode cX3_citizenGoesOnWith 43 = .ok (.goto 4, 3) := by decide +kernel
theorem dX3_citizenGoesOnWith_46 : decode cX3_citizenGoesOnWith 46 = .ok (.iconst 0, 1) := by decide +kernel
theorem dX3_citizenGoesOnWith_47 : decode cX3_citizenGoesOnWith 47 = .ok (.ireturn, 1) := by decide +kernel
theorem dX3_citizenGoesOnWith_48 : decode cX3_citizenGoesOnWith 48 = .ok (.iload_n 0, 1) := by decide +kernel
theorem dX3_citizenGoesOnWith_49 : decode cX3_citizenGoesOnWith 49 = .ok (.bipush 99, 2) := by decide +kernel
theorem dX3_citizenGoesOnWith_51 : decode cX3_citizenGoesOnWith 51 = .ok (.if_icmp .eq 15, 3) := by decide +kernel
theorem dX3_citizenGoesOnWith_54 : decode cX3_citizenGoesOnWith 54 = .ok (.iload_n 0, 1) := by decide +kernel
theorem dX3_citizenGoesOnWith_55 : decode cX3_citizenGoesOnWith 55 = .ok (.bipush 114, 2) := by decide +kernel
theorem dX3_citizenGoesOnWith_57 : decode cX3_citizenGoesOnWith 57 = .ok (.if_icmp .eq 9, 3) := by decide +kernel
theorem dX3_citizenGoesOnWith_60 : decode cX3_citizenGoesOnWith 60 = .ok (.iload_n 0, 1) := by decide +kernel
theorem dX3_citizenGoesOnWith_61 : decode cX3_citizenGoesOnWith 61 = .ok (.bipush 109, 2) := by decide +kernel
theorem dX3_citizenGoesOnWith_63 : decode cX3_citizenGoesOnWith 63 = .ok (.if_icmp .ne 7, 3) := by decide +kernel
theorem dX3_citizenGoesOnWith_66 : decode cX3_citizenGoesOnWith 66 = .ok (.iconst 1, 1) := by decide +kernel
theorem dX3_citizenGoesOnWith_67 : decode cX3_citizenGoesOnWith 67 = .ok (.goto 4, 3) := by decide +kernel
theorem dX3_citizenGoesOnWith_70 : decode cX3_citizenGoesOnWith 70 = .ok (.iconst 0, 1) := by decide +kernel
theorem dX3_citizenGoesOnWith_71 : decode cX3_citizenGoesOnWith 71 = .ok (.ireturn, 1) := by decide +kernel
theorem dX3_citizenGoesOnWith_72 : decode cX3_citizenGoesOnWith 72 = .ok (.iload_n 0, 1) := by decide +kernel
theorem dX3_citizenGoesOnWith_73 : decode cX3_citizenGoesOnWith 73 = .ok (.iconst 1, 1) := by decide +kernel
theorem dX3_citizenGoesOnWith_74 : decode cX3_citizenGoesOnWith 74 = .ok (.bipush 9, 2) := by decide +kernel
theorem dX3_citizenGoesOnWith_76 : decode cX3_citizenGoesOnWith 76 = .ok (.invokestatic 21, 3) := by decide +kernel
theorem dX3_citizenGoesOnWith_79 : decode cX3_citizenGoesOnWith 79 = .ok (.ireturn, 1) := by decide +kernel
theorem dX3_citizenGoesOnWith_80 : decode cX3_citizenGoesOnWith 80 = .ok (.iload_n 0, 1) := by decide +kernel
theorem dX3_citizenGoesOnWith_81 : decode cX3_citizenGoesOnWith 81 = .ok (.iconst 0, 1) := by decide +kernel
theorem dX3_citizenGoesOnWith_82 : decode cX3_citizenGoesOnWith 82 = .ok (.bipush 9, 2) := by decide +kernel
theorem dX3_citizenGoesOnWith_84 : decode cX3_citizenGoesOnWith 84 = .ok (.invokestatic 21, 3) := by decide +kernel
theorem dX3_citizenGoesOnWith_87 : decode cX3_citizenGoesOnWith 87 = .ok (.ireturn, 1) := by decide +kernel
theorem dX3_citizenGoesOnWith_88 : decode cX3_citizenGoesOnWith 88 = .ok (.iload_n 0, 1) := by decide +kernel
theorem dX3_citizenGoesOnWith_89 : decode cX3_citizenGoesOnWith 89 = .ok (.bipush 121, 2) := by decide +kernel
theorem dX3_citizenGoesOnWith_91 : decode cX3_citizenGoesOnWith 91 = .ok (.if_icmp .eq 9, 3) := by decide +kernel
theorem dX3_citizenGoesOnWith_94 : decode cX3_citizenGoesOnWith 94 = .ok (.iload_n 0, 1) := by decide +kernel
theorem dX3_citizenGoesOnWith_95 : decode cX3_citizenGoesOnWith 95 = .ok (.bipush 110, 2) := by decide +kernel
theorem dX3_citizenGoesOnWith_97 : decode cX3_citizenGoesOnWith 97 = .ok (.if_icmp .ne 7, 3) := by decide +kernel
theorem dX3_citizenGoesOnWith_100 : decode cX3_citizenGoesOnWith 100 = .ok (.iconst 1, 1) := by decide +kernel
theorem dX3_citizenGoesOnWith_101 : decode cX3_citizenGoesOnWith 101 = .ok (.goto 4, 3) := by decide +kernel
theorem dX3_citizenGoesOnWith_104 : decode cX3_citizenGoesOnWith 104 = .ok (.iconst 0, 1) := by decide +kernel
theorem dX3_citizenGoesOnWith_105 : decode cX3_citizenGoesOnWith 105 = .ok (.ireturn, 1) := by decide +kernel
theorem dX3_isDigit_0 : decode cX3_isDigit 0 = .ok (.iload_n 0, 1) := by decide +kernel
theorem dX3_isDigit_1 : decode cX3_isDigit 1 = .ok (.bipush 48, 2) := by decide +kernel
theorem dX3_isDigit_3 : decode cX3_isDigit 3 = .ok (.iload_n 1, 1) := by decide +kernel
theorem dX3_isDigit_4 : decode cX3_isDigit 4 = .ok (.iadd, 1) := by decide +kernel
theorem dX3_isDigit_5 : decode cX3_isDigit 5 = .ok (.if_icmp .lt 15, 3) := by decide +kernel
theorem dX3_isDigit_8 : decode cX3_isDigit 8 = .ok (.iload_n 0, 1) := by decide +kernel
theorem dX3_isDigit_9 : decode cX3_isDigit 9 = .ok (.bipush 48, 2) := by decide +kernel
theorem dX3_isDigit_11 : decode cX3_isDigit 11 = .ok (.iload_n 2, 1) := by decide +kernel
theorem dX3_isDigit_12 : decode cX3_isDigit 12 = .ok (.iadd, 1) := by decide +kernel
theorem dX3_isDigit_13 : decode cX3_isDigit 13 = .ok (.if_icmp .gt 7, 3) := by decide +kernel
theorem dX3_isDigit_16 : decode cX3_isDigit 16 = .ok (.iconst 1, 1) := by decide +kernel
theorem dX3_isDigit_17 : decode cX3_isDigit 17 = .ok (.goto 4, 3) := by decide +kernel
theorem dX3_isDigit_20 : decode cX3_isDigit 20 = .ok (.iconst 0, 1) := by decide +kernel
theorem dX3_isDigit_21 : decode cX3_isDigit 21 = .ok (.ireturn, 1) := by decide +kernel
theorem dX3_digit_0 : decode cX3_digit 0 = .ok (.iload_n 0, 1) := by decide +kernel
theorem dX3_digit_1 : decode cX3_digit 1 = .ok (.bipush 48, 2) := by decide +kernel
theorem dX3_digit_3 : decode cX3_digit 3 = .ok (.isub, 1) := by decide +kernel
theorem dX3_digit_4 : decode cX3_digit 4 = .ok (.ireturn, 1) := by decide +kernel
theorem dX3_citizensIn_0 : decode cX3_citizensIn 0 = .ok (.iload_n 0, 1) := by decide +kernel
theorem dX3_citizensIn_1 : decode cX3_citizensIn 1 = .ok (.iconst 3, 1) := by decide +kernel
theorem dX3_citizensIn_2 : decode cX3_citizensIn 2 = .ok (.isub, 1) := by decide +kernel
theorem dX3_citizensIn_3 : decode cX3_citizensIn 3 = .ok (.bipush 6, 2) := by decide +kernel
theorem dX3_citizensIn_5 : decode cX3_citizensIn 5 = .ok (.idiv, 1) := by decide +kernel
theorem dX3_citizensIn_6 : decode cX3_citizensIn 6 = .ok (.bipush 6, 2) := by decide +kernel
theorem dX3_citizensIn_8 : decode cX3_citizensIn 8 = .ok (.invokestatic 28, 3) := by decide +kernel
theorem dX3_citizensIn_11 : decode cX3_citizensIn 11 = .ok (.ireturn, 1) := by decide +kernel
set_option maxRecDepth 20000 in
theorem ggX3_tellCitizen_X2_at : GoodIn wsX3_tellCitizen wsX2_at := goodIn_r _ [4, 5, 14, 15, 16, 17] (by decide +kernel) (by decide +kernel)
set_option maxRecDepth 20000 in
theorem gX3_tellCitizen_X2_at_n9 : GoodIn wsX3_tellCitizen (wsX2_at) := ggX3_tellCitizen_X2_at
set_option maxRecDepth 20000 in
theorem ggX3_tellCitizen_X3_digit : GoodIn wsX3_tellCitizen wsX3_digit := goodIn_r _ [9] (by decide +kernel) (by decide +kernel)
set_option maxRecDepth 20000 in
theorem gX3_tellCitizen_X3_digit : GoodIn wsX3_tellCitizen (va_wsS RX3 40 yX3_digit wsX3_digit) := goodIn_app (goodIn_of _ (by decide +kernel)) ggX3_tellCitizen_X3_digit
theorem dX3_tellCitizen_0 : decode cX3_tellCitizen 0 = .ok (.aload_n 0, 1) := by decide +kernel
theorem dX3_tellCitizen_1 : decode cX3_tellCitizen 1 = .ok (.iload_n 1, 1) := by decide +kernel
theorem dX3_tellCitizen_2 : decode cX3_tellCitizen 2 = .ok (.iconst 1, 1) := by decide +kernel
theorem dX3_tellCitizen_3 : decode cX3_tellCitizen 3 = .ok (.iadd, 1) := by decide +kernel
theorem dX3_tellCitizen_4 : decode cX3_tellCitizen 4 = .ok (.invokevirtual 9, 3) := by decide +kernel
theorem dX3_tellCitizen_7 : decode cX3_tellCitizen 7 = .ok (.istore_n 3, 1) := by decide +kernel
theorem dX3_tellCitizen_8 : decode cX3_tellCitizen 8 = .ok (.aload_n 2, 1) := by decide +kernel
theorem dX3_tellCitizen_9 : decode cX3_tellCitizen 9 = .ok (.iload_n 3, 1) := by decide +kernel
theorem dX3_tellCitizen_10 : decode cX3_tellCitizen 10 = .ok (.bipush 109, 2) := by decide +kernel
theorem dX3_tellCitizen_12 : decode cX3_tellCitizen 12 = .ok (.if_icmp .ne 7, 3) := by decide +kernel
theorem dX3_tellCitizen_15 : decode cX3_tellCitizen 15 = .ok (.iconst 2, 1) := by decide +kernel
theorem dX3_tellCitizen_16 : decode cX3_tellCitizen 16 = .ok (.goto 14, 3) := by decide +kernel
theorem dX3_tellCitizen_19 : decode cX3_tellCitizen 19 = .ok (.iload_n 3, 1) := by decide +kernel
theorem dX3_tellCitizen_20 : decode cX3_tellCitizen 20 = .ok (.bipush 114, 2) := by decide +kernel
theorem dX3_tellCitizen_22 : decode cX3_tellCitizen 22 = .ok (.if_icmp .ne 7, 3) := by decide +kernel
theorem dX3_tellCitizen_25 : decode cX3_tellCitizen 25 = .ok (.iconst 1, 1) := by decide +kernel
theorem dX3_tellCitizen_26 : decode cX3_tellCitizen 26 = .ok (.goto 4, 3) := by decide +kernel
theorem dX3_tellCitizen_29 : decode cX3_tellCitizen 29 = .ok (.iconst 0, 1) := by decide +kernel
theorem dX3_tellCitizen_30 : decode cX3_tellCitizen 30 = .ok (.putfield 34, 3) := by decide +kernel
theorem dX3_tellCitizen_33 : decode cX3_tellCitizen 33 = .ok (.aload_n 2, 1) := by decide +kernel
theorem dX3_tellCitizen_34 : decode cX3_tellCitizen 34 = .ok (.aload_n 0, 1) := by decide +kernel
theorem dX3_tellCitizen_35 : decode cX3_tellCitizen 35 = .ok (.iload_n 1, 1) := by decide +kernel
theorem dX3_tellCitizen_36 : decode cX3_tellCitizen 36 = .ok (.iconst 2, 1) := by decide +kernel
theorem dX3_tellCitizen_37 : decode cX3_tellCitizen 37 = .ok (.iadd, 1) := by decide +kernel
theorem dX3_tellCitizen_38 : decode cX3_tellCitizen 38 = .ok (.invokevirtual 9, 3) := by decide +kernel
theorem dX3_tellCitizen_41 : decode cX3_tellCitizen 41 = .ok (.invokestatic 40, 3) := by decide +kernel
theorem dX3_tellCitizen_44 : decode cX3_tellCitizen 44 = .ok (.putfield 43, 3) := by decide +kernel
theorem dX3_tellCitizen_47 : decode cX3_tellCitizen 47 = .ok (.aload_n 2, 1) := by decide +kernel
theorem dX3_tellCitizen_48 : decode cX3_tellCitizen 48 = .ok (.bipush 10, 2) := by decide +kernel
theorem dX3_tellCitizen_50 : decode cX3_tellCitizen 50 = .ok (.aload_n 0, 1) := by decide +kernel
theorem dX3_tellCitizen_51 : decode cX3_tellCitizen 51 = .ok (.iload_n 1, 1) := by decide +kernel
theorem dX3_tellCitizen_52 : decode cX3_tellCitizen 52 = .ok (.iconst 3, 1) := by decide +kernel
theorem dX3_tellCitizen_53 : decode cX3_tellCitizen 53 = .ok (.iadd, 1) := by decide +kernel
theorem dX3_tellCitizen_54 : decode cX3_tellCitizen 54 = .ok (.invokevirtual 9, 3) := by decide +kernel
theorem dX3_tellCitizen_57 : decode cX3_tellCitizen 57 = .ok (.invokestatic 40, 3) := by decide +kernel
theorem dX3_tellCitizen_60 : decode cX3_tellCitizen 60 = .ok (.imul, 1) := by decide +kernel
theorem dX3_tellCitizen_61 : decode cX3_tellCitizen 61 = .ok (.aload_n 0, 1) := by decide +kernel
theorem dX3_tellCitizen_62 : decode cX3_tellCitizen 62 = .ok (.iload_n 1, 1) := by decide +kernel
theorem dX3_tellCitizen_63 : decode cX3_tellCitizen 63 = .ok (.iconst 4, 1) := by decide +kernel
theorem dX3_tellCitizen_64 : decode cX3_tellCitizen 64 = .ok (.iadd, 1) := by decide +kernel
theorem dX3_tellCitizen_65 : decode cX3_tellCitizen 65 = .ok (.invokevirtual 9, 3) := by decide +kernel
theorem dX3_tellCitizen_68 : decode cX3_tellCitizen 68 = .ok (.invokestatic 40, 3) := by decide +kernel
theorem dX3_tellCitizen_71 : decode cX3_tellCitizen 71 = .ok (.iadd, 1) := by decide +kernel
theorem dX3_tellCitizen_72 : decode cX3_tellCitizen 72 = .ok (.putfield 46, 3) := by decide +kernel
theorem dX3_tellCitizen_75 : decode cX3_tellCitizen 75 = .ok (.aload_n 2, 1) := by decide +kernel
theorem dX3_tellCitizen_76 : decode cX3_tellCitizen 76 = .ok (.aload_n 0, 1) := by decide +kernel
theorem dX3_tellCitizen_77 : decode cX3_tellCitizen 77 = .ok (.iload_n 1, 1) := by decide +kernel
theorem dX3_tellCitizen_78 : decode cX3_tellCitizen 78 = .ok (.iconst 5, 1) := by decide +kernel
theorem dX3_tellCitizen_79 : decode cX3_tellCitizen 79 = .ok (.iadd, 1) := by decide +kernel
theorem dX3_tellCitizen_80 : decode cX3_tellCitizen 80 = .ok (.invokevirtual 9, 3) := by decide +kernel
theorem dX3_tellCitizen_83 : decode cX3_tellCitizen 83 = .ok (.bipush 121, 2) := by decide +kernel
theorem dX3_tellCitizen_85 : decode cX3_tellCitizen 85 = .ok (.if_icmp .ne 7, 3) := by decide +kernel
theorem dX3_tellCitizen_88 : decode cX3_tellCitizen 88 = .ok (.iconst 1, 1) := by decide +kernel
theorem dX3_tellCitizen_89 : decode cX3_tellCitizen 89 = .ok (.goto 4, 3) := by decide +kernel
theorem dX3_tellCitizen_92 : decode cX3_tellCitizen 92 = .ok (.iconst 0, 1) := by decide +kernel
theorem dX3_tellCitizen_93 : decode cX3_tellCitizen 93 = .ok (.putfield 49, 3) := by decide +kernel
theorem dX3_tellCitizen_96 : decode cX3_tellCitizen 96 = .ok (.return_, 1) := by decide +kernel
theorem dJ6_bitCount_0f7a4_0 : decode cJ6_bitCount_0f7a4 0 = .ok (.iload_n 0, 1) := by decide +kernel
theorem dJ6_bitCount_0f7a4_1 : decode cJ6_bitCount_0f7a4 1 = .ok (.iload_n 0, 1) := by decide +kernel
theorem dJ6_bitCount_0f7a4_2 : decode cJ6_bitCount_0f7a4 2 = .ok (.iconst 1, 1) := by decide +kernel
theorem dJ6_bitCount_0f7a4_3 : decode cJ6_bitCount_0f7a4 3 = .ok (.iushr, 1) := by decide +kernel
theorem dJ6_bitCount_0f7a4_4 : decode cJ6_bitCount_0f7a4 4 = .ok (.ldc_w 265, 3) := by decide +kernel
theorem dJ6_bitCount_0f7a4_7 : decode cJ6_bitCount_0f7a4 7 = .ok (.iand, 1) := by decide +kernel
theorem dJ6_bitCount_0f7a4_8 : decode cJ6_bitCount_0f7a4 8 = .ok (.isub, 1) := by decide +kernel
theorem dJ6_bitCount_0f7a4_9 : decode cJ6_bitCount_0f7a4 9 = .ok (.istore_n 0, 1) := by decide +kernel
theorem dJ6_bitCount_0f7a4_10 : decode cJ6_bitCount_0f7a4 10 = .ok (.iload_n 0, 1) := by decide +kernel
theorem dJ6_bitCount_0f7a4_11 : decode cJ6_bitCount_0f7a4 11 = .ok (.ldc_w 266, 3) := by decide +kernel
theorem dJ6_bitCount_0f7a4_14 : decode cJ6_bitCount_0f7a4 14 = .ok (.iand, 1) := by decide +kernel
theorem dJ6_bitCount_0f7a4_15 : decode cJ6_bitCount_0f7a4 15 = .ok (.iload_n 0, 1) := by decide +kernel
theorem dJ6_bitCount_0f7a4_16 : decode cJ6_bitCount_0f7a4 16 = .ok (.iconst 2, 1) := by decide +kernel
theorem dJ6_bitCount_0f7a4_17 : decode cJ6_bitCount_0f7a4 17 = .ok (.iushr, 1) := by decide +kernel
theorem dJ6_bitCount_0f7a4_18 : decode cJ6_bitCount_0f7a4 18 = .ok (.ldc_w 266, 3) := by decide +kernel
theorem dJ6_bitCount_0f7a4_21 : decode cJ6_bitCount_0f7a4 21 = .ok (.iand, 1) := by decide +kernel
theorem dJ6_bitCount_0f7a4_22 : decode cJ6_bitCount_0f7a4 22 = .ok (.iadd, 1) := by decide +kernel
theorem dJ6_bitCount_0f7a4_23 : decode cJ6_bitCount_0f7a4 23 = .ok (.istore_n 0, 1) := by decide +kernel
theorem dJ6_bitCount_0f7a4_24 : decode cJ6_bitCount_0f7a4 24 = .ok (.iload_n 0, 1) := by decide +kernel
theorem dJ6_bitCount_0f7a4_25 : decode cJ6_bitCount_0f7a4 25 = .ok (.iload_n 0, 1) := by decide +kernel
theorem dJ6_bitCount_0f7a4_26 : decode cJ6_bitCount_0f7a4 26 = .ok (.iconst 4, 1) := by decide +kernel
theorem dJ6_bitCount_0f7a4_27 : decode cJ6_bitCount_0f7a4 27 = .ok (.iushr, 1) := by decide +kernel
theorem dJ6_bitCount_0f7a4_28 : decode cJ6_bitCount_0f7a4 28 = .ok (.iadd, 1) := by decide +kernel
theorem dJ6_bitCount_0f7a4_29 : decode cJ6_bitCount_0f7a4 29 = .ok (.ldc_w 267, 3) := by decide +kernel
theorem dJ6_bitCount_0f7a4_32 : decode cJ6_bitCount_0f7a4 32 = .ok (.iand, 1) := by decide +kernel
theorem dJ6_bitCount_0f7a4_33 : decode cJ6_bitCount_0f7a4 33 = .ok (.istore_n 0, 1) := by decide +kernel
theorem dJ6_bitCount_0f7a4_34 : decode cJ6_bitCount_0f7a4 34 = .ok (.iload_n 0, 1) := by decide +kernel
theorem dJ6_bitCount_0f7a4_35 : decode cJ6_bitCount_0f7a4 35 = .ok (.iload_n 0, 1) := by decide +kernel
theorem dJ6_bitCount_0f7a4_36 : decode cJ6_bitCount_0f7a4 36 = .ok (.bipush 8, 2) := by decide +kernel
theorem dJ6_bitCount_0f7a4_38 : decode cJ6_bitCount_0f7a4 38 = .ok (.iushr, 1) := by decide +kernel
theorem dJ6_bitCount_0f7a4_39 : decode cJ6_bitCount_0f7a4 39 = .ok (.iadd, 1) := by decide +kernel
theorem dJ6_bitCount_0f7a4_40 : decode cJ6_bitCount_0f7a4 40 = .ok (.istore_n 0, 1) := by decide +kernel
theorem dJ6_bitCount_0f7a4_41 : decode cJ6_bitCount_0f7a4 41 = .ok (.iload_n 0, 1) := by decide +kernel
theorem dJ6_bitCount_0f7a4_42 : decode cJ6_bitCount_0f7a4 42 = .ok (.iload_n 0, 1) := by decide +kernel
theorem dJ6_bitCount_0f7a4_43 : decode cJ6_bitCount_0f7a4 43 = .ok (.bipush 16, 2) := by decide +kernel
theorem dJ6_bitCount_0f7a4_45 : decode cJ6_bitCount_0f7a4 45 = .ok (.iushr, 1) := by decide +kernel
theorem dJ6_bitCount_0f7a4_46 : decode cJ6_bitCount_0f7a4 46 = .ok (.iadd, 1) := by decide +kernel
theorem dJ6_bitCount_0f7a4_47 : decode cJ6_bitCount_0f7a4 47 = .ok (.istore_n 0, 1) := by decide +kernel
theorem dJ6_bitCount_0f7a4_48 : decode cJ6_bitCount_0f7a4 48 = .ok (.iload_n 0, 1) := by decide +kernel
theorem dJ6_bitCount_0f7a4_49 : decode cJ6_bitCount_0f7a4 49 = .ok (.bipush 63, 2) := by decide +kernel
theorem dJ6_bitCount_0f7a4_51 : decode cJ6_bitCount_0f7a4 51 = .ok (.iand, 1) := by decide +kernel
theorem dJ6_bitCount_0f7a4_52 : decode cJ6_bitCount_0f7a4 52 = .ok (.ireturn, 1) := by decide +kernel
theorem dJ9_max_7cf53_0 : decode cJ9_max_7cf53 0 = .ok (.iload_n 0, 1) := by decide +kernel
theorem dJ9_max_7cf53_1 : decode cJ9_max_7cf53 1 = .ok (.iload_n 1, 1) := by decide +kernel
theorem dJ9_max_7cf53_2 : decode cJ9_max_7cf53 2 = .ok (.if_icmp .lt 7, 3) := by decide +kernel
theorem dJ9_max_7cf53_5 : decode cJ9_max_7cf53 5 = .ok (.iload_n 0, 1) := by decide +kernel
theorem dJ9_max_7cf53_6 : decode cJ9_max_7cf53 6 = .ok (.goto 4, 3) := by decide +kernel
theorem dJ9_max_7cf53_9 : decode cJ9_max_7cf53 9 = .ok (.iload_n 1, 1) := by decide +kernel
theorem dJ9_max_7cf53_10 : decode cJ9_max_7cf53 10 = .ok (.ireturn, 1) := by decide +kernel
theorem dJ9_min_7cf53_0 : decode cJ9_min_7cf53 0 = .ok (.iload_n 0, 1) := by decide +kernel
theorem dJ9_min_7cf53_1 : decode cJ9_min_7cf53 1 = .ok (.iload_n 1, 1) := by decide +kernel
theorem dJ9_min_7cf53_2 : decode cJ9_min_7cf53 2 = .ok (.if_icmp .gt 7, 3) := by decide +kernel
theorem dJ9_min_7cf53_5 : decode cJ9_min_7cf53 5 = .ok (.iload_n 0, 1) := by decide +kernel
theorem dJ9_min_7cf53_6 : decode cJ9_min_7cf53 6 = .ok (.goto 4, 3) := by decide +kernel
theorem dJ9_min_7cf53_9 : decode cJ9_min_7cf53 9 = .ok (.iload_n 1, 1) := by decide +kernel
theorem dJ9_min_7cf53_10 : decode cJ9_min_7cf53 10 = .ok (.ireturn, 1) := by decide +kernel
end
section
set_option maxRecDepth 20000 in
theorem ggX4_init_X1_init : GoodIn wsX4_init wsX1_init := goodIn_r _ [19, 20, 2, 3, 6, 21, 22, 23, 24, 42, 43, 44, 45, 46, 47, 48] (by decide +kernel) (by decide +kernel)
set_option maxRecDepth 20000 in
theorem gX4_init_X1_init_n29 : GoodIn wsX4_init (wsX1_init) := ggX4_init_X1_init
set_option maxRecDepth 20000 in
theorem ggX4_init_X0_init : GoodIn wsX4_init wsX0_init := goodIn_r _ [26, 27, 2, 3] (by decide +kernel) (by decide +kernel)
set_option maxRecDepth 20000 in
theorem gX4_init_X0_init_n34 : GoodIn wsX4_init (wsX0_init) := ggX4_init_X0_init
set_option maxRecDepth 20000 in
theorem ggX4_init_X2_init : GoodIn wsX4_init wsX2_init := goodIn_r _ [29, 30, 2, 3, 6, 31, 53, 54, 55, 56] (by decide +kernel) (by decide +kernel)
set_option maxRecDepth 20000 in
theorem gX4_init_X2_init_n35 : GoodIn wsX4_init (wsX2_init) := ggX4_init_X2_init
theorem dX4_init_0 : decode cX4_init 0 = .ok (.aload_n 0, 1) := by decide +kernel
theorem dX4_init_1 : decode cX4_init 1 = .ok (.invokespecial 3, 3) := by decide +kernel
theorem dX4_init_4 : decode cX4_init 4 = .ok (.aload_n 0, 1) := by decide +kernel
theorem dX4_init_5 : decode cX4_init 5 = .ok (.bipush 6, 2) := by decide +kernel
theorem dX4_init_7 : decode cX4_init 7 = .ok (.anewarray 11, 3) := by decide +kernel
theorem dX4_init_10 : decode cX4_init 10 = .ok (.putfield 13, 3) := by decide +kernel
theorem dX4_init_13 : decode cX4_init 13 = .ok (.aload_n 0, 1) := by decide +kernel
theorem dX4_init_14 : decode cX4_init 14 = .ok (.bipush 8, 2) := by decide +kernel
theorem dX4_init_16 : decode cX4_init 16 = .ok (.newarray .int, 2) := by decide +kernel
theorem dX4_init_18 : decode cX4_init 18 = .ok (.putfield 17, 3) := by decide +kernel
theorem dX4_init_21 : decode cX4_init 21 = .ok (.aload_n 0, 1) := by decide +kernel
theorem dX4_init_22 : decode cX4_init 22 = .ok (.iconst 4, 1) := by decide +kernel
theorem dX4_init_23 : decode cX4_init 23 = .ok (.anewarray 21, 3) := by decide +kernel
theorem dX4_init_26 : decode cX4_init 26 = .ok (.putfield 23, 3) := by decide +kernel
theorem dX4_init_29 : decode cX4_init 29 = .ok (.aload_n 0, 1) := by decide +kernel
theorem dX4_init_30 : decode cX4_init 30 = .ok (.new 27, 3) := by decide +kernel
theorem dX4_init_33 : decode cX4_init 33 = .ok (.dup, 1) := by decide +kernel
theorem dX4_init_34 : decode cX4_init 34 = .ok (.invokespecial 29, 3) := by decide +kernel
theorem dX4_init_37 : decode cX4_init 37 = .ok (.putfield 30, 3) := by decide +kernel
theorem dX4_init_40 : decode cX4_init 40 = .ok (.iconst 0, 1) := by decide +kernel
theorem dX4_init_41 : decode cX4_init 41 = .ok (.istore_n 1, 1) := by decide +kernel
theorem dX4_init_42 : decode cX4_init 42 = .ok (.iload_n 1, 1) := by decide +kernel
theorem dX4_init_43 : decode cX4_init 43 = .ok (.bipush 6, 2) := by decide +kernel
theorem dX4_init_45 : decode cX4_init 45 = .ok (.if_icmp .ge 22, 3) := by decide +kernel
theorem dX4_init_48 : decode cX4_init 48 = .ok (.aload_n 0, 1) := by decide +kernel
theorem dX4_init_49 : decode cX4_init 49 = .ok (.getfield 13, 3) := by decide +kernel
theorem dX4_init_52 : decode cX4_init 52 = .ok (.iload_n 1, 1) := by decide +kernel
theorem dX4_init_53 : decode cX4_init 53 = .ok (.new 11, 3) := by decide +kernel
theorem dX4_init_56 : decode cX4_init 56 = .ok (.dup, 1) := by decide +kernel
theorem dX4_init_57 : decode cX4_init 57 = .ok (.invokespecial 34, 3) := by decide +kernel
theorem dX4_init_60 : decode cX4_init 60 = .ok (.aastore, 1) := by decide +kernel
theorem dX4_init_61 : decode cX4_init 61 = .ok (.iinc 1 1, 3) := by decide +kernel
theorem dX4_init_64 : decode cX4_init 64 = .ok (.goto (-22), 3) := by decide +kernel
theorem dX4_init_67 : decode cX4_init 67 = .ok (.iconst 0, 1) := by decide +kernel
theorem dX4_init_68 : decode cX4_init 68 = .ok (.istore_n 1, 1) := by decide +kernel
theorem dX4_init_69 : decode cX4_init 69 = .ok (.iload_n 1, 1) := by decide +kernel
theorem dX4_init_70 : decode cX4_init 70 = .ok (.iconst 4, 1) := by decide +kernel
theorem dX4_init_71 : decode cX4_init 71 = .ok (.if_icmp .ge 22, 3) := by decide +kernel
theorem dX4_init_74 : decode cX4_init 74 = .ok (.aload_n 0, 1) := by decide +kernel
theorem dX4_init_75 : decode cX4_init 75 = .ok (.getfield 23, 3) := by decide +kernel
theorem dX4_init_78 : decode cX4_init 78 = .ok (.iload_n 1, 1) := by decide +kernel
theorem dX4_init_79 : decode cX4_init 79 = .ok (.new 21, 3) := by decide +kernel
theorem dX4_init_82 : decode cX4_init 82 = .ok (.dup, 1) := by decide +kernel
theorem dX4_init_83 : decode cX4_init 83 = .ok (.invokespecial 35, 3) := by decide +kernel
theorem dX4_init_86 : decode cX4_init 86 = .ok (.aastore, 1) := by decide +kernel
theorem dX4_init_87 : decode cX4_init 87 = .ok (.iinc 1 1, 3) := by decide +kernel
theorem dX4_init_90 : decode cX4_init 90 = .ok (.goto (-21), 3) := by decide +kernel
theorem dX4_init_93 : decode cX4_init 93 = .ok (.return_, 1) := by decide +kernel
set_option maxRecDepth 20000 in
theorem ggX4_republic_X4_isSheet : GoodIn wsX4_republic wsX4_isSheet := goodIn_r _ [6] (by decide +kernel) (by decide +kernel)
set_option maxRecDepth 20000 in
theorem gX4_republic_X4_isSheet : GoodIn wsX4_republic (va_wsS RX4 40 yX4_isSheet wsX4_isSheet) := goodIn_app (goodIn_of _ (by decide +kernel)) ggX4_republic_X4_isSheet
set_option maxRecDepth 20000 in
theorem ggX4_republic_X4_isLane : GoodIn wsX4_republic wsX4_isLane := goodIn_r _ [9] (by decide +kernel) (by decide +kernel)
set_option maxRecDepth 20000 in
theorem gX4_republic_X4_isLane : GoodIn wsX4_republic (va_wsS RX4 44 yX4_isLane wsX4_isLane) := goodIn_app (goodIn_of _ (by decide +kernel)) ggX4_republic_X4_isLane
set_option maxRecDepth 20000 in
theorem ggX4_republic_X4_rowOf : GoodIn wsX4_republic wsX4_rowOf := goodIn_r _ [13, 14, 15, 16, 5, 17, 18, 3, 4, 6, 80, 81, 82, 83, 70, 71, 72, 73, 74, 75, 76, 77, 78, 79] (by decide +kernel) (by decide +kernel)
set_option maxRecDepth 20000 in
theorem gX4_republic_X4_rowOf : GoodIn wsX4_republic (wsV RX4 47 RX4 yX4_rowOf wsX4_rowOf) := goodIn_app (goodIn_of _ (by decide +kernel)) ggX4_republic_X4_rowOf
set_option maxRecDepth 20000 in
theorem ggX4_republic_X4_faultOf : GoodIn wsX4_republic wsX4_faultOf := goodIn_r _ [21, 22, 23, 24, 25, 26, 80, 81, 82, 83] (by decide +kernel) (by decide +kernel)
set_option maxRecDepth 20000 in
theorem gX4_republic_X4_faultOf : GoodIn wsX4_republic (va_wsS RX4 51 yX4_faultOf wsX4_faultOf) := goodIn_app (goodIn_of _ (by decide +kernel)) ggX4_republic_X4_faultOf
set_option maxRecDepth 20000 in
theorem ggX4_republic_X4_faulted : GoodIn wsX4_republic wsX4_faulted := goodIn_r _ [30, 1, 70, 71, 72, 73, 74, 75, 76, 77, 78, 79] (by decide +kernel) (by decide +kernel)
set_option maxRecDepth 20000 in
theorem gX4_republic_X4_faulted : GoodIn wsX4_republic (wsV RX4 55 RX4 yX4_faulted wsX4_faulted) := goodIn_app (goodIn_of _ (by decide +kernel)) ggX4_republic_X4_faulted
set_option maxRecDepth 20000 in
theorem ggX4_republic_X3_firstFault : GoodIn wsX4_republic wsX3_firstFault := goodIn_r _ [33, 34, 23, 35, 36, 37, 38, 39, 32, 40, 41, 42, 43, 44, 45, 46, 80, 81, 82, 83] (by decide +kernel) (by decide +kernel)
set_option maxRecDepth 20000 in
theorem gX4_republic_X3_firstFault_n59 : GoodIn wsX4_republic (wsX3_firstFault) := ggX4_republic_X3_firstFault
set_option maxRecDepth 20000 in
theorem ggX4_republic_X4_takeText : GoodIn wsX4_republic wsX4_takeText := goodIn_r _ [50, 2, 51, 52, 53, 54, 32, 55, 56, 57, 58, 59, 34, 23, 35, 36, 37, 60, 61, 62, 63, 64, 5, 65, 66, 67, 68, 69, 70, 71, 72, 73, 74, 75, 76, 77, 78, 79, 80, 81, 82, 83, 84, 85, 86, 87] (by decide +kernel) (by decide +kernel)
set_option maxRecDepth 20000 in
theorem gX4_republic_X4_takeText : GoodIn wsX4_republic (wsV RX4 65 RX4 yX4_takeText wsX4_takeText) := goodIn_app (goodIn_of _ (by decide +kernel)) ggX4_republic_X4_takeText
theorem dX4_republic_0 : decode cX4_republic 0 = .ok (.aload_n 0, 1) := by decide +kernel
theorem dX4_republic_1 : decode cX4_republic 1 = .ok (.iconst 0, 1) := by decide +kernel
theorem dX4_republic_2 : decode cX4_republic 2 = .ok (.putfield 36, 3) := by decide +kernel
theorem dX4_republic_5 : decode cX4_republic 5 = .ok (.iload_n 1, 1) := by decide +kernel
theorem dX4_republic_6 : decode cX4_republic 6 = .ok (.invokestatic 40, 3) := by decide +kernel
theorem dX4_republic_9 : decode cX4_republic 9 = .ok (.ifCond .ne 5, 3) := by decide +kernel
theorem dX4_republic_12 : decode cX4_republic 12 = .ok (.iconst (-1), 1) := by decide +kernel
theorem dX4_republic_13 : decode cX4_republic 13 = .ok (.ireturn, 1) := by decide +kernel
theorem dX4_republic_14 : decode cX4_republic 14 = .ok (.iload_n 2, 1) := by decide +kernel
theorem dX4_republic_15 : decode cX4_republic 15 = .ok (.invokestatic 44, 3) := by decide +kernel
theorem dX4_republic_18 : decode cX4_republic 18 = .ok (.ifCond .ne 6, 3) := by decide +kernel
theorem dX4_republic_21 : decode cX4_republic 21 = .ok (.bipush (-2), 2) := by decide +kernel
theorem dX4_republic_23 : decode cX4_republic 23 = .ok (.ireturn, 1) := by decide +kernel
theorem dX4_republic_24 : decode cX4_republic 24 = .ok (.aload_n 0, 1) := by decide +kernel
theorem dX4_republic_25 : decode cX4_republic 25 = .ok (.iload_n 1, 1) := by decide +kernel
theorem dX4_republic_26 : decode cX4_republic 26 = .ok (.invokevirtual 47, 3) := by decide +kernel
theorem dX4_republic_29 : decode cX4_republic 29 = .ok (.astore 5, 2) := by decide +kernel
theorem dX4_republic_31 : decode cX4_republic 31 = .ok (.aload 5, 2) := by decide +kernel
theorem dX4_republic_33 : decode cX4_republic 33 = .ok (.iload_n 2, 1) := by decide +kernel
theorem dX4_republic_34 : decode cX4_republic 34 = .ok (.iload_n 3, 1) := by decide +kernel
theorem dX4_republic_35 : decode cX4_republic 35 = .ok (.iload 4, 2) := by decide +kernel
theorem dX4_republic_37 : decode cX4_republic 37 = .ok (.invokestatic 51, 3) := by decide +kernel
theorem dX4_republic_40 : decode cX4_republic 40 = .ok (.istore 6, 2) := by decide +kernel
theorem dX4_republic_42 : decode cX4_republic 42 = .ok (.aload 5, 2) := by decide +kernel
theorem dX4_republic_44 : decode cX4_republic 44 = .ok (.ifnull 8, 3) := by decide +kernel
theorem dX4_republic_47 : decode cX4_republic 47 = .ok (.iload 6, 2) := by decide +kernel
theorem dX4_republic_49 : decode cX4_republic 49 = .ok (.ifCond .eq 10, 3) := by decide +kernel
theorem dX4_republic_52 : decode cX4_republic 52 = .ok (.aload_n 0, 1) := by decide +kernel
theorem dX4_republic_53 : decode cX4_republic 53 = .ok (.iload 6, 2) := by decide +kernel
theorem dX4_republic_55 : decode cX4_republic 55 = .ok (.invokevirtual 55, 3) := by decide +kernel
theorem dX4_republic_58 : decode cX4_republic 58 = .ok (.ireturn, 1) := by decide +kernel
theorem dX4_republic_59 : decode cX4_republic 59 = .ok (.aload 5, 2) := by decide +kernel
theorem dX4_republic_61 : decode cX4_republic 61 = .ok (.iload_n 3, 1) := by decide +kernel
theorem dX4_republic_62 : decode cX4_republic 62 = .ok (.iload 4, 2) := by decide +kernel
theorem dX4_republic_64 : decode cX4_republic 64 = .ok (.invokestatic 59, 3) := by decide +kernel
theorem dX4_republic_67 : decode cX4_republic 67 = .ok (.istore 7, 2) := by decide +kernel
theorem dX4_republic_69 : decode cX4_republic 69 = .ok (.iload 7, 2) := by decide +kernel
theorem dX4_republic_71 : decode cX4_republic 71 = .ok (.bipush (-9), 2) := by decide +kernel
theorem dX4_republic_73 : decode cX4_republic 73 = .ok (.if_icmp .eq 9, 3) := by decide +kernel
theorem dX4_republic_76 : decode cX4_republic 76 = .ok (.bipush (-100), 2) := by decide +kernel
theorem dX4_republic_78 : decode cX4_republic 78 = .ok (.iload 7, 2) := by decide +kernel
theorem dX4_republic_80 : decode cX4_republic 80 = .ok (.isub, 1) := by decide +kernel
theorem dX4_republic_81 : decode cX4_republic 81 = .ok (.ireturn, 1) := by decide +kernel
theorem dX4_republic_82 : decode cX4_republic 82 = .ok (.aload_n 0, 1) := by decide +kernel
theorem dX4_republic_83 : decode cX4_republic 83 = .ok (.aload 5, 2) := by decide +kernel
theorem dX4_republic_85 : decode cX4_republic 85 = .ok (.iload_n 3, 1) := by decide +kernel
theorem dX4_republic_86 : decode cX4_republic 86 = .ok (.iload 4, 2) := by decide +kernel
theorem dX4_republic_88 : decode cX4_republic 88 = .ok (.invokevirtual 65, 3) := by decide +kernel
theorem dX4_republic_91 : decode cX4_republic 91 = .ok (.aload_n 0, 1) := by decide +kernel
theorem dX4_republic_92 : decode cX4_republic 92 = .ok (.getfield 69, 3) := by decide +kernel
theorem dX4_republic_95 : decode cX4_republic 95 = .ok (.ireturn, 1) := by decide +kernel
set_option maxRecDepth 20000 in
theorem ggX4_ofCitizen_X4_citizen : GoodIn wsX4_ofCitizen wsX4_citizen := goodIn_r _ [5, 6, 7, 24, 25, 26, 27, 28, 29, 30, 31, 32, 33] (by decide +kernel) (by decide +kernel)
set_option maxRecDepth 20000 in
theorem gX4_ofCitizen_X4_citizen : GoodIn wsX4_ofCitizen (wsV RX4 72 RX4 yX4_citizen wsX4_citizen) := goodIn_app (goodIn_of _ (by decide +kernel)) ggX4_ofCitizen_X4_citizen
set_option maxRecDepth 20000 in
theorem ggX4_ofCitizen_X0_slips : GoodIn wsX4_ofCitizen wsX0_slips := goodIn_r _ [11, 12, 13, 14, 4, 15, 20, 21, 22, 23] (by decide +kernel) (by decide +kernel)
set_option maxRecDepth 20000 in
theorem gX4_ofCitizen_X0_slips_n89 : GoodIn wsX4_ofCitizen (wsX0_slips) := ggX4_ofCitizen_X0_slips
set_option maxRecDepth 20000 in
theorem ggX4_ofCitizen_X4_slipsAhead : GoodIn wsX4_ofCitizen wsX4_slipsAhead := goodIn_r _ [19, 1, 2, 3, 4, 5, 6, 7, 8, 9, 10, 11, 12, 13, 14, 15, 24, 25, 26, 27, 28, 29, 30, 31, 32, 33, 20, 21, 22, 23] (by decide +kernel) (by decide +kernel)
set_option maxRecDepth 20000 in
theorem gX4_ofCitizen_X4_slipsAhead : GoodIn wsX4_ofCitizen (wsV RX4 93 RX4 yX4_slipsAhead wsX4_slipsAhead) := goodIn_app (goodIn_of _ (by decide +kernel)) ggX4_ofCitizen_X4_slipsAhead
theorem dX4_ofCitizen_0 : decode cX4_ofCitizen 0 = .ok (.aload_n 0, 1) := by decide +kernel
theorem dX4_ofCitizen_1 : decode cX4_ofCitizen 1 = .ok (.iload_n 1, 1) := by decide +kernel
theorem dX4_ofCitizen_2 : decode cX4_ofCitizen 2 = .ok (.invokevirtual 72, 3) := by decide +kernel
theorem dX4_ofCitizen_5 : decode cX4_ofCitizen 5 = .ok (.astore_n 3, 1) := by decide +kernel
theorem dX4_ofCitizen_6 : decode cX4_ofCitizen 6 = .ok (.aload_n 3, 1) := by decide +kernel
theorem dX4_ofCitizen_7 : decode cX4_ofCitizen 7 = .ok (.ifnonnull 5, 3) := by decide +kernel
theorem dX4_ofCitizen_10 : decode cX4_ofCitizen 10 = .ok (.iconst (-1), 1) := by decide +kernel
theorem dX4_ofCitizen_11 : decode cX4_ofCitizen 11 = .ok (.ireturn, 1) := by decide +kernel
theorem dX4_ofCitizen_12 : decode cX4_ofCitizen 12 = .ok (.iload_n 2, 1) := by decide +kernel
theorem dX4_ofCitizen_13 : decode cX4_ofCitizen 13 = .ok (.tableswitch 78 0 5 #[39, 44, 49, 54, 67, 72], 39) := by decide +kernel
theorem dX4_ofCitizen_52 : decode cX4_ofCitizen 52 = .ok (.aload_n 3, 1) := by decide +kernel
theorem dX4_ofCitizen_53 : decode cX4_ofCitizen 53 = .ok (.getfield 76, 3) := by decide +kernel
theorem dX4_ofCitizen_56 : decode cX4_ofCitizen 56 = .ok (.ireturn, 1) := by decide +kernel
theorem dX4_ofCitizen_57 : decode cX4_ofCitizen 57 = .ok (.aload_n 3, 1) := by decide +kernel
theorem dX4_ofCitizen_58 : decode cX4_ofCitizen 58 = .ok (.getfield 79, 3) := by decide +kernel
theorem dX4_ofCitizen_61 : decode cX4_ofCitizen 61 = .ok (.ireturn, 1) := by decide +kernel
theorem dX4_ofCitizen_62 : decode cX4_ofCitizen 62 = .ok (.aload_n 3, 1) := by decide +kernel
theorem dX4_ofCitizen_63 : decode cX4_ofCitizen 63 = .ok (.getfield 82, 3) := by decide +kernel
theorem dX4_ofCitizen_66 : decode cX4_ofCitizen 66 = .ok (.ireturn, 1) := by decide +kernel
theorem dX4_ofCitizen_67 : decode cX4_ofCitizen 67 = .ok (.aload_n 3, 1) := by decide +kernel
theorem dX4_ofCitizen_68 : decode cX4_ofCitizen 68 = .ok (.getfield 85, 3) := by decide +kernel
theorem dX4_ofCitizen_71 : decode cX4_ofCitizen 71 = .ok (.ifCond .eq 7, 3) := by decide +kernel
theorem dX4_ofCitizen_74 : decode cX4_ofCitizen 74 = .ok (.iconst 1, 1) := by decide +kernel
theorem dX4_ofCitizen_75 : decode cX4_ofCitizen 75 = .ok (.goto 4, 3) := by decide +kernel
theorem dX4_ofCitizen_78 : decode cX4_ofCitizen 78 = .ok (.iconst 0, 1) := by decide +kernel
theorem dX4_ofCitizen_79 : decode cX4_ofCitizen 79 = .ok (.ireturn, 1) := by decide +kernel
theorem dX4_ofCitizen_80 : decode cX4_ofCitizen 80 = .ok (.aload_n 3, 1) := by decide +kernel
theorem dX4_ofCitizen_81 : decode cX4_ofCitizen 81 = .ok (.invokevirtual 89, 3) := by decide +kernel
theorem dX4_ofCitizen_84 : decode cX4_ofCitizen 84 = .ok (.ireturn, 1) := by decide +kernel
theorem dX4_ofCitizen_85 : decode cX4_ofCitizen 85 = .ok (.aload_n 0, 1) := by decide +kernel
theorem dX4_ofCitizen_86 : decode cX4_ofCitizen 86 = .ok (.iload_n 1, 1) := by decide +kernel
theorem dX4_ofCitizen_87 : decode cX4_ofCitizen 87 = .ok (.invokevirtual 93, 3) := by decide +kernel
theorem dX4_ofCitizen_90 : decode cX4_ofCitizen 90 = .ok (.ireturn, 1) := by decide +kernel
theorem dX4_ofCitizen_91 : decode cX4_ofCitizen 91 = .ok (.bipush (-2), 2) := by decide +kernel
theorem dX4_ofCitizen_93 : decode cX4_ofCitizen 93 = .ok (.ireturn, 1) := by decide +kernel
theorem dX4_drawn_0 : decode cX4_drawn 0 = .ok (.iload_n 1, 1) := by decide +kernel
theorem dX4_drawn_1 : decode cX4_drawn 1 = .ok (.ifCond .lt 9, 3) := by decide +kernel
theorem dX4_drawn_4 : decode cX4_drawn 4 = .ok (.iload_n 1, 1) := by decide +kernel
theorem dX4_drawn_5 : decode cX4_drawn 5 = .ok (.bipush 6, 2) := by decide +kernel
theorem dX4_drawn_7 : decode cX4_drawn 7 = .ok (.if_icmp .le 6, 3) := by decide +kernel
theorem dX4_drawn_10 : decode cX4_drawn 10 = .ok (.bipush (-2), 2) := by decide +kernel
theorem dX4_drawn_12 : decode cX4_drawn 12 = .ok (.ireturn, 1) := by decide +kernel
theorem dX4_drawn_13 : decode cX4_drawn 13 = .ok (.aload_n 0, 1) := by decide +kernel
theorem dX4_drawn_14 : decode cX4_drawn 14 = .ok (.getfield 69, 3) := by decide +kernel
theorem dX4_drawn_17 : decode cX4_drawn 17 = .ok (.ifCond .ne 6, 3) := by decide +kernel
theorem dX4_drawn_20 : decode cX4_drawn 20 = .ok (.bipush (-3), 2) := by decide +kernel
theorem dX4_drawn_22 : decode cX4_drawn 22 = .ok (.ireturn, 1) := by decide +kernel
theorem dX4_drawn_23 : decode cX4_drawn 23 = .ok (.aload_n 0, 1) := by decide +kernel
theorem dX4_drawn_24 : decode cX4_drawn 24 = .ok (.getfield 96, 3) := by decide +kernel
theorem dX4_drawn_27 : decode cX4_drawn 27 = .ok (.istore_n 2, 1) := by decide +kernel
theorem dX4_drawn_28 : decode cX4_drawn 28 = .ok (.aload_n 0, 1) := by decide +kernel
theorem dX4_drawn_29 : decode cX4_drawn 29 = .ok (.iload_n 1, 1) := by decide +kernel
theorem dX4_drawn_30 : decode cX4_drawn 30 = .ok (.putfield 96, 3) := by decide +kernel
theorem dX4_drawn_33 : decode cX4_drawn 33 = .ok (.iload_n 2, 1) := by decide +kernel
theorem dX4_drawn_34 : decode cX4_drawn 34 = .ok (.ireturn, 1) := by decide +kernel
theorem dX4_price_0 : decode cX4_price 0 = .ok (.iload_n 1, 1) := by decide +kernel
theorem dX4_price_1 : decode cX4_price 1 = .ok (.iconst 1, 1) := by decide +kernel
theorem dX4_price_2 : decode cX4_price 2 = .ok (.if_icmp .lt 9, 3) := by decide +kernel
theorem dX4_price_5 : decode cX4_price 5 = .ok (.iload_n 1, 1) := by decide +kernel
theorem dX4_price_6 : decode cX4_price 6 = .ok (.bipush 9, 2) := by decide +kernel
theorem dX4_price_8 : decode cX4_price 8 = .ok (.if_icmp .le 6, 3) := by decide +kernel
theorem dX4_price_11 : decode cX4_price 11 = .ok (.bipush (-2), 2) := by decide +kernel
theorem dX4_price_13 : decode cX4_price 13 = .ok (.ireturn, 1) := by decide +kernel
theorem dX4_price_14 : decode cX4_price 14 = .ok (.aload_n 0, 1) := by decide +kernel
theorem dX4_price_15 : decode cX4_price 15 = .ok (.getfield 69, 3) := by decide +kernel
theorem dX4_price_18 : decode cX4_price 18 = .ok (.ifCond .ne 6, 3) := by decide +kernel
theorem dX4_price_21 : decode cX4_price 21 = .ok (.bipush (-3), 2) := by decide +kernel
theorem dX4_price_23 : decode cX4_price 23 = .ok (.ireturn, 1) := by decide +kernel
theorem dX4_price_24 : decode cX4_price 24 = .ok (.aload_n 0, 1) := by decide +kernel
theorem dX4_price_25 : decode cX4_price 25 = .ok (.getfield 99, 3) := by decide +kernel
theorem dX4_price_28 : decode cX4_price 28 = .ok (.istore_n 2, 1) := by decide +kernel
theorem dX4_price_29 : decode cX4_price 29 = .ok (.aload_n 0, 1) := by decide +kernel
theorem dX4_price_30 : decode cX4_price 30 = .ok (.iload_n 1, 1) := by decide +kernel
theorem dX4_price_31 : decode cX4_price 31 = .ok (.putfield 99, 3) := by decide +kernel
theorem dX4_price_34 : decode cX4_price 34 = .ok (.iload_n 2, 1) := by decide +kernel
theorem dX4_price_35 : decode cX4_price 35 = .ok (.ireturn, 1) := by decide +kernel
set_option maxRecDepth 20000 in
theorem ggX4_wish_X4_citizen : GoodIn wsX4_wish wsX4_citizen := goodIn_r _ [5, 6, 7, 12, 13, 14, 15, 16, 17, 18, 19, 20, 21] (by decide +kernel) (by decide +kernel)
set_option maxRecDepth 20000 in
theorem gX4_wish_X4_citizen : GoodIn wsX4_wish (wsV RX4 72 RX4 yX4_citizen wsX4_citizen) := goodIn_app (goodIn_of _ (by decide +kernel)) ggX4_wish_X4_citizen
theorem dX4_wish_0 : decode cX4_wish 0 = .ok (.aload_n 0, 1) := by decide +kernel
theorem dX4_wish_1 : decode cX4_wish 1 = .ok (.iload_n 1, 1) := by decide +kernel
theorem dX4_wish_2 : decode cX4_wish 2 = .ok (.invokevirtual 72, 3) := by decide +kernel
theorem dX4_wish_5 : decode cX4_wish 5 = .ok (.astore_n 3, 1) := by decide +kernel
theorem dX4_wish_6 : decode cX4_wish 6 = .ok (.aload_n 3, 1) := by decide +kernel
theorem dX4_wish_7 : decode cX4_wish 7 = .ok (.ifnonnull 5, 3) := by decide +kernel
theorem dX4_wish_10 : decode cX4_wish 10 = .ok (.iconst (-1), 1) := by decide +kernel
theorem dX4_wish_11 : decode cX4_wish 11 = .ok (.ireturn, 1) := by decide +kernel
theorem dX4_wish_12 : decode cX4_wish 12 = .ok (.aload_n 3, 1) := by decide +kernel
theorem dX4_wish_13 : decode cX4_wish 13 = .ok (.getfield 85, 3) := by decide +kernel
theorem dX4_wish_16 : decode cX4_wish 16 = .ok (.iload_n 2, 1) := by decide +kernel
theorem dX4_wish_17 : decode cX4_wish 17 = .ok (.if_icmp .ne 5, 3) := by decide +kernel
theorem dX4_wish_20 : decode cX4_wish 20 = .ok (.iconst 0, 1) := by decide +kernel
theorem dX4_wish_21 : decode cX4_wish 21 = .ok (.ireturn, 1) := by decide +kernel
theorem dX4_wish_22 : decode cX4_wish 22 = .ok (.aload_n 3, 1) := by decide +kernel
theorem dX4_wish_23 : decode cX4_wish 23 = .ok (.iload_n 2, 1) := by decide +kernel
theorem dX4_wish_24 : decode cX4_wish 24 = .ok (.putfield 85, 3) := by decide +kernel
theorem dX4_wish_27 : decode cX4_wish 27 = .ok (.iconst 1, 1) := by decide +kernel
theorem dX4_wish_28 : decode cX4_wish 28 = .ok (.ireturn, 1) := by decide +kernel
set_option maxRecDepth 20000 in
theorem ggX4_draw_X4_isSheet : GoodIn wsX4_draw wsX4_isSheet := goodIn_r _ [7] (by decide +kernel) (by decide +kernel)
set_option maxRecDepth 20000 in
theorem gX4_draw_X4_isSheet : GoodIn wsX4_draw (va_wsS RX4 40 yX4_isSheet wsX4_isSheet) := goodIn_app (goodIn_of _ (by decide +kernel)) ggX4_draw_X4_isSheet
set_option maxRecDepth 20000 in
theorem ggX4_draw_X4_isLane : GoodIn wsX4_draw wsX4_isLane := goodIn_r _ [10] (by decide +kernel) (by decide +kernel)
set_option maxRecDepth 20000 in
theorem gX4_draw_X4_isLane : GoodIn wsX4_draw (va_wsS RX4 44 yX4_isLane wsX4_isLane) := goodIn_app (goodIn_of _ (by decide +kernel)) ggX4_draw_X4_isLane
set_option maxRecDepth 20000 in
theorem ggX4_draw_X4_rowOf : GoodIn wsX4_draw wsX4_rowOf := goodIn_r _ [14, 15, 16, 17, 6, 18, 19, 4, 5, 7, 120, 121, 122, 123, 110, 111, 112, 113, 114, 115, 116, 117, 118, 119] (by decide +kernel) (by decide +kernel)
set_option maxRecDepth 20000 in
theorem gX4_draw_X4_rowOf : GoodIn wsX4_draw (wsV RX4 47 RX4 yX4_rowOf wsX4_rowOf) := goodIn_app (goodIn_of _ (by decide +kernel)) ggX4_draw_X4_rowOf
set_option maxRecDepth 20000 in
theorem ggX4_draw_X4_faultOf : GoodIn wsX4_draw wsX4_faultOf := goodIn_r _ [22, 23, 24, 25, 26, 27, 120, 121, 122, 123] (by decide +kernel) (by decide +kernel)
set_option maxRecDepth 20000 in
theorem gX4_draw_X4_faultOf : GoodIn wsX4_draw (va_wsS RX4 51 yX4_faultOf wsX4_faultOf) := goodIn_app (goodIn_of _ (by decide +kernel)) ggX4_draw_X4_faultOf
set_option maxRecDepth 20000 in
theorem ggX4_draw_X4_faulted : GoodIn wsX4_draw wsX4_faulted := goodIn_r _ [31, 1, 110, 111, 112, 113, 114, 115, 116, 117, 118, 119] (by decide +kernel) (by decide +kernel)
set_option maxRecDepth 20000 in
theorem gX4_draw_X4_faulted : GoodIn wsX4_draw (wsV RX4 55 RX4 yX4_faulted wsX4_faulted) := goodIn_app (goodIn_of _ (by decide +kernel)) ggX4_draw_X4_faulted
set_option maxRecDepth 20000 in
theorem ggX4_draw_X4_firstWrong : GoodIn wsX4_draw wsX4_firstWrong := goodIn_r _ [35, 36, 24, 37, 38, 39, 40, 41, 42, 6, 43, 2, 44, 45, 46, 47, 48, 49, 50, 51, 52, 53, 54, 55, 56, 57, 58, 59, 60, 120, 121, 122, 123, 110, 111, 112, 113, 114, 115, 116, 117, 118, 119, 124, 125, 126, 127] (by decide +kernel) (by decide +kernel)
set_option maxRecDepth 20000 in
theorem gX4_draw_X4_firstWrong : GoodIn wsX4_draw (wsV RX4 102 RX4 yX4_firstWrong wsX4_firstWrong) := goodIn_app (goodIn_of _ (by decide +kernel)) ggX4_draw_X4_firstWrong
set_option maxRecDepth 20000 in
theorem ggX4_draw_X4_rulersBy : GoodIn wsX4_draw wsX4_rulersBy := goodIn_r _ [64, 2, 36, 24, 37, 38, 39, 40, 41, 42, 6, 43, 44, 45, 46, 47, 48, 49, 50, 51, 52, 53, 54, 55, 56, 110, 111, 112, 113, 114, 115, 116, 117, 118, 119, 120, 121, 122, 123, 124, 125, 126, 127] (by decide +kernel) (by decide +kernel)
set_option maxRecDepth 20000 in
theorem gX4_draw_X4_rulersBy : GoodIn wsX4_draw (wsV RX4 105 RX4 yX4_rulersBy wsX4_rulersBy) := goodIn_app (goodIn_of _ (by decide +kernel)) ggX4_draw_X4_rulersBy
set_option maxRecDepth 20000 in
theorem ggX4_draw_X4_fillDrum : GoodIn wsX4_draw wsX4_fillDrum := goodIn_r _ [68, 3, 2, 69, 70, 71, 72, 73, 74, 75, 76, 77, 78, 79, 80, 81, 82, 83, 84, 85, 86, 87, 88, 89, 44, 45, 46, 6, 47, 48, 49, 50, 51, 52, 53, 54, 55, 56, 90, 91, 92, 93, 94, 95, 96, 97, 98, 99, 110, 111, 112, 113, 114, 115, 116, 117, 118, 119, 124, 125, 126, 127, 128, 129, 130, 131, 132, 133, 134] (by decide +kernel) (by decide +kernel)
set_option maxRecDepth 20000 in
theorem gX4_draw_X4_fillDrum : GoodIn wsX4_draw (wsV RX4 108 RX4 yX4_fillDrum wsX4_fillDrum) := goodIn_app (goodIn_of _ (by decide +kernel)) ggX4_draw_X4_fillDrum
set_option maxRecDepth 20000 in
theorem ggX4_draw_X1_passesUnder : GoodIn wsX4_draw wsX1_passesUnder := goodIn_r _ [102, 82, 103, 104, 105, 106, 107, 108, 109, 128, 129, 130, 131, 132, 133, 134] (by decide +kernel) (by decide +kernel)
set_option maxRecDepth 20000 in
theorem gX4_draw_X1_passesUnder_n111 : GoodIn wsX4_draw (wsX1_passesUnder) := ggX4_draw_X1_passesUnder
theorem dX4_draw_0 : decode cX4_draw 0 = .ok (.aload_n 0, 1) := by decide +kernel
theorem dX4_draw_1 : decode cX4_draw 1 = .ok (.iconst 0, 1) := by decide +kernel
theorem dX4_draw_2 : decode cX4_draw 2 = .ok (.putfield 36, 3) := by decide +kernel
theorem dX4_draw_5 : decode cX4_draw 5 = .ok (.iload_n 1, 1) := by decide +kernel
theorem dX4_draw_6 : decode cX4_draw 6 = .ok (.invokestatic 40, 3) := by decide +kernel
theorem dX4_draw_9 : decode cX4_draw 9 = .ok (.ifCond .ne 5, 3) := by decide +kernel
theorem dX4_draw_12 : decode cX4_draw 12 = .ok (.iconst (-1), 1) := by decide +kernel
theorem dX4_draw_13 : decode cX4_draw 13 = .ok (.ireturn, 1) := by decide +kernel
theorem dX4_draw_14 : decode cX4_draw 14 = .ok (.iload_n 2, 1) := by decide +kernel
theorem dX4_draw_15 : decode cX4_draw 15 = .ok (.invokestatic 44, 3) := by decide +kernel
theorem dX4_draw_18 : decode cX4_draw 18 = .ok (.ifCond .eq 26, 3) := by decide +kernel
theorem dX4_draw_21 : decode cX4_draw 21 = .ok (.iload 4, 2) := by decide +kernel
theorem dX4_draw_23 : decode cX4_draw 23 = .ok (.ifCond .lt 21, 3) := by decide +kernel
theorem dX4_draw_26 : decode cX4_draw 26 = .ok (.iload 4, 2) := by decide +kernel
theorem dX4_draw_28 : decode cX4_draw 28 = .ok (.bipush 20, 2) := by decide +kernel
theorem dX4_draw_30 : decode cX4_draw 30 = .ok (.if_icmp .gt 14, 3) := by decide +kernel
theorem dX4_draw_33 : decode cX4_draw 33 = .ok (.iload 5, 2) := by decide +kernel
theorem dX4_draw_35 : decode cX4_draw 35 = .ok (.ifCond .lt 9, 3) := by decide +kernel
theorem dX4_draw_38 : decode cX4_draw 38 = .ok (.iload 5, 2) := by decide +kernel
theorem dX4_draw_40 : decode cX4_draw 40 = .ok (.iconst 2, 1) := by decide +kernel
theorem dX4_draw_41 : decode cX4_draw 41 = .ok (.if_icmp .le 6, 3) := by decide +kernel
theorem dX4_draw_44 : decode cX4_draw 44 = .ok (.bipush (-2), 2) := by decide +kernel
theorem dX4_draw_46 : decode cX4_draw 46 = .ok (.ireturn, 1) := by decide +kernel
theorem dX4_draw_47 : decode cX4_draw 47 = .ok (.aload_n 0, 1) := by decide +kernel
theorem dX4_draw_48 : decode cX4_draw 48 = .ok (.getfield 69, 3) := by decide +kernel
theorem dX4_draw_51 : decode cX4_draw 51 = .ok (.ifCond .ne 6, 3) := by decide +kernel
theorem dX4_draw_54 : decode cX4_draw 54 = .ok (.bipush (-3), 2) := by decide +kernel
theorem dX4_draw_56 : decode cX4_draw 56 = .ok (.ireturn, 1) := by decide +kernel
theorem dX4_draw_57 : decode cX4_draw 57 = .ok (.aload_n 0, 1) := by decide +kernel
theorem dX4_draw_58 : decode cX4_draw 58 = .ok (.iload_n 1, 1) := by decide +kernel
theorem dX4_draw_59 : decode cX4_draw 59 = .ok (.invokevirtual 47, 3) := by decide +kernel
theorem dX4_draw_62 : decode cX4_draw 62 = .ok (.astore 6, 2) := by decide +kernel
theorem dX4_draw_64 : decode cX4_draw 64 = .ok (.aload 6, 2) := by decide +kernel
theorem dX4_draw_66 : decode cX4_draw 66 = .ok (.iload_n 2, 1) := by decide +kernel
theorem dX4_draw_67 : decode cX4_draw 67 = .ok (.iload_n 3, 1) := by decide +kernel
theorem dX4_draw_68 : decode cX4_draw 68 = .ok (.iload 4, 2) := by decide +kernel
theorem dX4_draw_70 : decode cX4_draw 70 = .ok (.invokestatic 51, 3) := by decide +kernel
theorem dX4_draw_73 : decode cX4_draw 73 = .ok (.istore 7, 2) := by decide +kernel
theorem dX4_draw_75 : decode cX4_draw 75 = .ok (.aload 6, 2) := by decide +kernel
theorem dX4_draw_77 : decode cX4_draw 77 = .ok (.ifnull 8, 3) := by decide +kernel
theorem dX4_draw_80 : decode cX4_draw 80 = .ok (.iload 7, 2) := by decide +kernel
theorem dX4_draw_82 : decode cX4_draw 82 = .ok (.ifCond .eq 10, 3) := by decide +kernel
theorem dX4_draw_85 : decode cX4_draw 85 = .ok (.aload_n 0, 1) := by decide +kernel
theorem dX4_draw_86 : decode cX4_draw 86 = .ok (.iload 7, 2) := by decide +kernel
theorem dX4_draw_88 : decode cX4_draw 88 = .ok (.invokevirtual 55, 3) := by decide +kernel
theorem dX4_draw_91 : decode cX4_draw 91 = .ok (.ireturn, 1) := by decide +kernel
theorem dX4_draw_92 : decode cX4_draw 92 = .ok (.aload_n 0, 1) := by decide +kernel
theorem dX4_draw_93 : decode cX4_draw 93 = .ok (.aload 6, 2) := by decide +kernel
theorem dX4_draw_95 : decode cX4_draw 95 = .ok (.iload_n 3, 1) := by decide +kernel
theorem dX4_draw_96 : decode cX4_draw 96 = .ok (.iload 4, 2) := by decide +kernel
theorem dX4_draw_98 : decode cX4_draw 98 = .ok (.invokevirtual 102, 3) := by decide +kernel
theorem dX4_draw_101 : decode cX4_draw 101 = .ok (.istore 8, 2) := by decide +kernel
theorem dX4_draw_103 : decode cX4_draw 103 = .ok (.iload 5, 2) := by decide +kernel
theorem dX4_draw_105 : decode cX4_draw 105 = .ok (.iconst 1, 1) := by decide +kernel
theorem dX4_draw_106 : decode cX4_draw 106 = .ok (.if_icmp .ne 6, 3) := by decide +kernel
theorem dX4_draw_109 : decode cX4_draw 109 = .ok (.iload 8, 2) := by decide +kernel
theorem dX4_draw_111 : decode cX4_draw 111 = .ok (.ireturn, 1) := by decide +kernel
theorem dX4_draw_112 : decode cX4_draw 112 = .ok (.iload 8, 2) := by decide +kernel
theorem dX4_draw_114 : decode cX4_draw 114 = .ok (.bipush (-9), 2) := by decide +kernel
theorem dX4_draw_116 : decode cX4_draw 116 = .ok (.if_icmp .eq 9, 3) := by decide +kernel
theorem dX4_draw_119 : decode cX4_draw 119 = .ok (.bipush (-100), 2) := by decide +kernel
theorem dX4_draw_121 : decode cX4_draw 121 = .ok (.iload 8, 2) := by decide +kernel
theorem dX4_draw_123 : decode cX4_draw 123 = .ok (.isub, 1) := by decide +kernel
theorem dX4_draw_124 : decode cX4_draw 124 = .ok (.ireturn, 1) := by decide +kernel
theorem dX4_draw_125 : decode cX4_draw 125 = .ok (.aload_n 0, 1) := by decide +kernel
theorem dX4_draw_126 : decode cX4_draw 126 = .ok (.aload 6, 2) := by decide +kernel
theorem dX4_draw_128 : decode cX4_draw 128 = .ok (.iload_n 3, 1) := by decide +kernel
theorem dX4_draw_129 : decode cX4_draw 129 = .ok (.iload 4, 2) := by decide +kernel
theorem dX4_draw_131 : decode cX4_draw 131 = .ok (.invokevirtual 105, 3) := by decide +kernel
theorem dX4_draw_134 : decode cX4_draw 134 = .ok (.istore 9, 2) := by decide +kernel
theorem dX4_draw_136 : decode cX4_draw 136 = .ok (.iload 5, 2) := by decide +kernel
theorem dX4_draw_138 : decode cX4_draw 138 = .ok (.ifCond .ne 6, 3) := by decide +kernel
theorem dX4_draw_141 : decode cX4_draw 141 = .ok (.iload 9, 2) := by decide +kernel
theorem dX4_draw_143 : decode cX4_draw 143 = .ok (.ireturn, 1) := by decide +kernel
theorem dX4_draw_144 : decode cX4_draw 144 = .ok (.aload_n 0, 1) := by decide +kernel
theorem dX4_draw_145 : decode cX4_draw 145 = .ok (.invokevirtual 108, 3) := by decide +kernel
theorem dX4_draw_148 : decode cX4_draw 148 = .ok (.aload_n 0, 1) := by decide +kernel
theorem dX4_draw_149 : decode cX4_draw 149 = .ok (.getfield 30, 3) := by decide +kernel
theorem dX4_draw_152 : decode cX4_draw 152 = .ok (.iload 9, 2) := by decide +kernel
theorem dX4_draw_154 : decode cX4_draw 154 = .ok (.invokevirtual 111, 3) := by decide +kernel
theorem dX4_draw_157 : decode cX4_draw 157 = .ok (.ifCond .eq 7, 3) := by decide +kernel
theorem dX4_draw_160 : decode cX4_draw 160 = .ok (.iconst 1, 1) := by decide +kernel
theorem dX4_draw_161 : decode cX4_draw 161 = .ok (.goto 4, 3) := by decide +kernel
theorem dX4_draw_164 : decode cX4_draw 164 = .ok (.iconst 0, 1) := by decide +kernel
theorem dX4_draw_165 : decode cX4_draw 165 = .ok (.ireturn, 1) := by decide +kernel
set_option maxRecDepth 20000 in
theorem ggX4_rules_X4_citizen : GoodIn wsX4_rules wsX4_citizen := goodIn_r _ [7, 8, 9, 73, 74, 75, 76, 77, 78, 79, 80, 81, 82] (by decide +kernel) (by decide +kernel)
set_option maxRecDepth 20000 in
theorem gX4_rules_X4_citizen : GoodIn wsX4_rules (wsV RX4 72 RX4 yX4_citizen wsX4_citizen) := goodIn_app (goodIn_of _ (by decide +kernel)) ggX4_rules_X4_citizen
set_option maxRecDepth 20000 in
theorem ggX4_rules_X4_isWhich : GoodIn wsX4_rules wsX4_isWhich := goodIn_r _ [12] (by decide +kernel) (by decide +kernel)
set_option maxRecDepth 20000 in
theorem gX4_rules_X4_isWhich : GoodIn wsX4_rules (va_wsS RX4 114 yX4_isWhich wsX4_isWhich) := goodIn_app (goodIn_of _ (by decide +kernel)) ggX4_rules_X4_isWhich
set_option maxRecDepth 20000 in
theorem ggX4_rules_X4_fillDrum : GoodIn wsX4_rules wsX4_fillDrum := goodIn_r _ [16, 2, 8, 17, 18, 19, 20, 21, 22, 23, 24, 25, 26, 27, 28, 29, 30, 31, 32, 33, 34, 35, 36, 37, 3, 4, 5, 6, 7, 9, 38, 39, 40, 41, 42, 43, 44, 45, 46, 47, 48, 49, 50, 51, 52, 53, 54, 55, 73, 74, 75, 76, 77, 78, 79, 80, 81, 82, 83, 84, 85, 86, 87, 88, 89, 90, 91, 92, 93] (by decide +kernel) (by decide +kernel)
set_option maxRecDepth 20000 in
theorem gX4_rules_X4_fillDrum : GoodIn wsX4_rules (wsV RX4 108 RX4 yX4_fillDrum wsX4_fillDrum) := goodIn_app (goodIn_of _ (by decide +kernel)) ggX4_rules_X4_fillDrum
set_option maxRecDepth 20000 in
theorem ggX4_rules_X1_drawsSparing : GoodIn wsX4_rules wsX1_drawsSparing := goodIn_r _ [58, 31, 59, 60, 61, 19, 62, 32, 63, 64, 65, 66, 37, 22, 23, 24, 25, 50, 51, 52, 87, 88, 89, 90, 91, 92, 93] (by decide +kernel) (by decide +kernel)
set_option maxRecDepth 20000 in
theorem gX4_rules_X1_drawsSparing_n119 : GoodIn wsX4_rules (wsX1_drawsSparing) := ggX4_rules_X1_drawsSparing
set_option maxRecDepth 20000 in
theorem ggX4_rules_X1_draws : GoodIn wsX4_rules wsX1_draws := goodIn_r _ [69, 31, 63, 64, 65, 19, 66, 37, 22, 23, 24, 25, 50, 51, 52, 87, 88, 89, 90, 91, 92, 93] (by decide +kernel) (by decide +kernel)
set_option maxRecDepth 20000 in
theorem gX4_rules_X1_draws_n123 : GoodIn wsX4_rules (wsX1_draws) := ggX4_rules_X1_draws
set_option maxRecDepth 20000 in
theorem ggX4_rules_X4_partOf : GoodIn wsX4_rules wsX4_partOf := goodIn_r _ [72] (by decide +kernel) (by decide +kernel)
set_option maxRecDepth 20000 in
theorem gX4_rules_X4_partOf : GoodIn wsX4_rules (va_wsS RX4 127 yX4_partOf wsX4_partOf) := goodIn_app (goodIn_of _ (by decide +kernel)) ggX4_rules_X4_partOf
theorem dX4_rules_0 : decode cX4_rules 0 = .ok (.aload_n 0, 1) := by decide +kernel
theorem dX4_rules_1 : decode cX4_rules 1 = .ok (.iload_n 1, 1) := by decide +kernel
theorem dX4_rules_2 : decode cX4_rules 2 = .ok (.invokevirtual 72, 3) := by decide +kernel
theorem dX4_rules_5 : decode cX4_rules 5 = .ok (.ifnull 10, 3) := by decide +kernel
theorem dX4_rules_8 : decode cX4_rules 8 = .ok (.iload_n 2, 1) := by decide +kernel
theorem dX4_rules_9 : decode cX4_rules 9 = .ok (.invokestatic 114, 3) := by decide +kernel
theorem dX4_rules_12 : decode cX4_rules 12 = .ok (.ifCond .ne 7, 3) := by decide +kernel
theorem dX4_rules_15 : decode cX4_rules 15 = .ok (.ldc2_w 117, 3) := by decide +kernel
theorem dX4_rules_18 : decode cX4_rules 18 = .ok (.lreturn, 1) := by decide +kernel
theorem dX4_rules_19 : decode cX4_rules 19 = .ok (.aload_n 0, 1) := by decide +kernel
theorem dX4_rules_20 : decode cX4_rules 20 = .ok (.invokevirtual 108, 3) := by decide +kernel
theorem dX4_rules_23 : decode cX4_rules 23 = .ok (.aload_n 0, 1) := by decide +kernel
theorem dX4_rules_24 : decode cX4_rules 24 = .ok (.getfield 30, 3) := by decide +kernel
theorem dX4_rules_27 : decode cX4_rules 27 = .ok (.iload_n 1, 1) := by decide +kernel
theorem dX4_rules_28 : decode cX4_rules 28 = .ok (.invokevirtual 119, 3) := by decide +kernel
theorem dX4_rules_31 : decode cX4_rules 31 = .ok (.aload_n 0, 1) := by decide +kernel
theorem dX4_rules_32 : decode cX4_rules 32 = .ok (.getfield 30, 3) := by decide +kernel
theorem dX4_rules_35 : decode cX4_rules 35 = .ok (.invokevirtual 123, 3) := by decide +kernel
theorem dX4_rules_38 : decode cX4_rules 38 = .ok (.iload_n 2, 1) := by decide +kernel
theorem dX4_rules_39 : decode cX4_rules 39 = .ok (.invokestatic 127, 3) := by decide +kernel
theorem dX4_rules_42 : decode cX4_rules 42 = .ok (.lreturn, 1) := by decide +kernel
set_option maxRecDepth 20000 in
theorem ggX4_just_X4_isSet : GoodIn wsX4_just wsX4_isSet := goodIn_r _ [8, 1, 101, 102, 103, 104, 105, 106, 107, 108, 109, 110] (by decide +kernel) (by decide +kernel)
set_option maxRecDepth 20000 in
theorem gX4_just_X4_isSet : GoodIn wsX4_just (wsV RX4 131 RX4 yX4_isSet wsX4_isSet) := goodIn_app (goodIn_of _ (by decide +kernel)) ggX4_just_X4_isSet
set_option maxRecDepth 20000 in
theorem ggX4_just_X4_isWhich : GoodIn wsX4_just wsX4_isWhich := goodIn_r _ [11] (by decide +kernel) (by decide +kernel)
set_option maxRecDepth 20000 in
theorem gX4_just_X4_isWhich : GoodIn wsX4_just (va_wsS RX4 114 yX4_isWhich wsX4_isWhich) := goodIn_app (goodIn_of _ (by decide +kernel)) ggX4_just_X4_isWhich
set_option maxRecDepth 20000 in
theorem ggX4_just_X4_fillDrum : GoodIn wsX4_just wsX4_fillDrum := goodIn_r _ [15, 3, 1, 16, 17, 18, 19, 20, 21, 22, 23, 24, 25, 26, 27, 28, 29, 30, 31, 32, 33, 34, 35, 36, 37, 38, 39, 7, 40, 41, 42, 43, 44, 45, 46, 47, 48, 49, 50, 51, 52, 53, 54, 55, 56, 57, 58, 59, 101, 102, 103, 104, 105, 106, 107, 108, 109, 110, 111, 112, 113, 114, 115, 116, 117, 118, 119, 120, 121] (by decide +kernel) (by decide +kernel)
set_option maxRecDepth 20000 in
theorem gX4_just_X4_fillDrum : GoodIn wsX4_just (wsV RX4 108 RX4 yX4_fillDrum wsX4_fillDrum) := goodIn_app (goodIn_of _ (by decide +kernel)) ggX4_just_X4_fillDrum
set_option maxRecDepth 20000 in
theorem ggX4_just_X1_drawsLeavingJust : GoodIn wsX4_just wsX1_drawsLeavingJust := goodIn_r _ [62, 63, 64, 65, 18, 66, 28, 67, 68, 69, 70, 71, 72, 73, 74, 75, 36, 30, 21, 22, 23, 24, 76, 77, 78, 79, 80, 81, 82, 83, 84, 85, 86, 53, 87, 88, 89, 90, 91, 92, 93, 94, 115, 116, 117, 118, 119, 120, 121] (by decide +kernel) (by decide +kernel)
set_option maxRecDepth 20000 in
theorem gX4_just_X1_drawsLeavingJust_n134 : GoodIn wsX4_just (wsX1_drawsLeavingJust) := ggX4_just_X1_drawsLeavingJust
set_option maxRecDepth 20000 in
theorem ggX4_just_X1_draws : GoodIn wsX4_just wsX1_draws := goodIn_r _ [97, 30, 72, 73, 74, 18, 75, 36, 21, 22, 23, 24, 54, 55, 56, 115, 116, 117, 118, 119, 120, 121] (by decide +kernel) (by decide +kernel)
set_option maxRecDepth 20000 in
theorem gX4_just_X1_draws_n123 : GoodIn wsX4_just (wsX1_draws) := ggX4_just_X1_draws
set_option maxRecDepth 20000 in
theorem ggX4_just_X4_partOf : GoodIn wsX4_just wsX4_partOf := goodIn_r _ [100] (by decide +kernel) (by decide +kernel)
set_option maxRecDepth 20000 in
theorem gX4_just_X4_partOf : GoodIn wsX4_just (va_wsS RX4 127 yX4_partOf wsX4_partOf) := goodIn_app (goodIn_of _ (by decide +kernel)) ggX4_just_X4_partOf
theorem dX4_just_0 : decode cX4_just 0 = .ok (.aload_n 0, 1) := by decide +kernel
theorem dX4_just_1 : decode cX4_just 1 = .ok (.getfield 69, 3) := by decide +kernel
theorem dX4_just_4 : decode cX4_just 4 = .ok (.ifCond .eq 18, 3) := by decide +kernel
theorem dX4_just_7 : decode cX4_just 7 = .ok (.aload_n 0, 1) := by decide +kernel
theorem dX4_just_8 : decode cX4_just 8 = .ok (.iload_n 1, 1) := by decide +kernel
theorem dX4_just_9 : decode cX4_just 9 = .ok (.invokevirtual 131, 3) := by decide +kernel
theorem dX4_just_12 : decode cX4_just 12 = .ok (.ifCond .eq 10, 3) := by decide +kernel
theorem dX4_just_15 : decode cX4_just 15 = .ok (.iload_n 2, 1) := by decide +kernel
theorem dX4_just_16 : decode cX4_just 16 = .ok (.invokestatic 114, 3) := by decide +kernel
theorem dX4_just_19 : decode cX4_just 19 = .ok (.ifCond .ne 7, 3) := by decide +kernel
theorem dX4_just_22 : decode cX4_just 22 = .ok (.ldc2_w 117, 3) := by decide +kernel
theorem dX4_just_25 : decode cX4_just 25 = .ok (.lreturn, 1) := by decide +kernel
theorem dX4_just_26 : decode cX4_just 26 = .ok (.aload_n 0, 1) := by decide +kernel
theorem dX4_just_27 : decode cX4_just 27 = .ok (.invokevirtual 108, 3) := by decide +kernel
theorem dX4_just_30 : decode cX4_just 30 = .ok (.aload_n 0, 1) := by decide +kernel
theorem dX4_just_31 : decode cX4_just 31 = .ok (.getfield 30, 3) := by decide +kernel
theorem dX4_just_34 : decode cX4_just 34 = .ok (.iload_n 1, 1) := by decide +kernel
theorem dX4_just_35 : decode cX4_just 35 = .ok (.invokevirtual 134, 3) := by decide +kernel
theorem dX4_just_38 : decode cX4_just 38 = .ok (.aload_n 0, 1) := by decide +kernel
theorem dX4_just_39 : decode cX4_just 39 = .ok (.getfield 30, 3) := by decide +kernel
theorem dX4_just_42 : decode cX4_just 42 = .ok (.invokevirtual 123, 3) := by decide +kernel
theorem dX4_just_45 : decode cX4_just 45 = .ok (.iload_n 2, 1) := by decide +kernel
theorem dX4_just_46 : decode cX4_just 46 = .ok (.invokestatic 127, 3) := by decide +kernel
theorem dX4_just_49 : decode cX4_just 49 = .ok (.lreturn, 1) := by decide +kernel
set_option maxRecDepth 20000 in
theorem ggX4_mean_X4_isWhich : GoodIn wsX4_mean wsX4_isWhich := goodIn_r _ [7] (by decide +kernel) (by decide +kernel)
set_option maxRecDepth 20000 in
theorem gX4_mean_X4_isWhich : GoodIn wsX4_mean (va_wsS RX4 114 yX4_isWhich wsX4_isWhich) := goodIn_app (goodIn_of _ (by decide +kernel)) ggX4_mean_X4_isWhich
set_option maxRecDepth 20000 in
theorem ggX4_mean_X4_fillDrum : GoodIn wsX4_mean wsX4_fillDrum := goodIn_r _ [11, 3, 1, 12, 13, 14, 15, 16, 17, 18, 19, 20, 21, 22, 23, 24, 25, 26, 27, 28, 29, 30, 31, 32, 33, 34, 35, 6, 36, 37, 38, 39, 40, 41, 42, 43, 44, 45, 46, 47, 48, 49, 50, 51, 52, 53, 54, 55, 73, 74, 75, 76, 77, 78, 79, 80, 81, 82, 83, 84, 85, 86, 87, 88, 89, 90, 91, 92, 93] (by decide +kernel) (by decide +kernel)
set_option maxRecDepth 20000 in
theorem gX4_mean_X4_fillDrum : GoodIn wsX4_mean (wsV RX4 108 RX4 yX4_fillDrum wsX4_fillDrum) := goodIn_app (goodIn_of _ (by decide +kernel)) ggX4_mean_X4_fillDrum
set_option maxRecDepth 20000 in
theorem ggX4_mean_X1_drawsSparing : GoodIn wsX4_mean wsX1_drawsSparing := goodIn_r _ [58, 26, 59, 60, 61, 14, 62, 27, 63, 64, 65, 66, 32, 17, 18, 19, 20, 50, 51, 52, 87, 88, 89, 90, 91, 92, 93] (by decide +kernel) (by decide +kernel)
set_option maxRecDepth 20000 in
theorem gX4_mean_X1_drawsSparing_n119 : GoodIn wsX4_mean (wsX1_drawsSparing) := ggX4_mean_X1_drawsSparing
set_option maxRecDepth 20000 in
theorem ggX4_mean_X1_draws : GoodIn wsX4_mean wsX1_draws := goodIn_r _ [69, 26, 63, 64, 65, 14, 66, 32, 17, 18, 19, 20, 50, 51, 52, 87, 88, 89, 90, 91, 92, 93] (by decide +kernel) (by decide +kernel)
set_option maxRecDepth 20000 in
theorem gX4_mean_X1_draws_n123 : GoodIn wsX4_mean (wsX1_draws) := ggX4_mean_X1_draws
set_option maxRecDepth 20000 in
theorem ggX4_mean_X4_partOf : GoodIn wsX4_mean wsX4_partOf := goodIn_r _ [72] (by decide +kernel) (by decide +kernel)
set_option maxRecDepth 20000 in
theorem gX4_mean_X4_partOf : GoodIn wsX4_mean (va_wsS RX4 127 yX4_partOf wsX4_partOf) := goodIn_app (goodIn_of _ (by decide +kernel)) ggX4_mean_X4_partOf
theorem dX4_mean_0 : decode cX4_mean 0 = .ok (.aload_n 0, 1) := by decide +kernel
theorem dX4_mean_1 : decode cX4_mean 1 = .ok (.getfield 69, 3) := by decide +kernel
theorem dX4_mean_4 : decode cX4_mean 4 = .ok (.ifCond .eq 10, 3) := by decide +kernel
theorem dX4_mean_7 : decode cX4_mean 7 = .ok (.iload_n 1, 1) := by decide +kernel
theorem dX4_mean_8 : decode cX4_mean 8 = .ok (.invokestatic 114, 3) := by decide +kernel
theorem dX4_mean_11 : decode cX4_mean 11 = .ok (.ifCond .ne 7, 3) := by decide +kernel
theorem dX4_mean_14 : decode cX4_mean 14 = .ok (.ldc2_w 117, 3) := by decide +kernel
theorem dX4_mean_17 : decode cX4_mean 17 = .ok (.lreturn, 1) := by decide +kernel
theorem dX4_mean_18 : decode cX4_mean 18 = .ok (.aload_n 0, 1) := by decide +kernel
theorem dX4_mean_19 : decode cX4_mean 19 = .ok (.invokevirtual 108, 3) := by decide +kernel
theorem dX4_mean_22 : decode cX4_mean 22 = .ok (.lconst 0, 1) := by decide +kernel
theorem dX4_mean_23 : decode cX4_mean 23 = .ok (.lstore_n 2, 1) := by decide +kernel
theorem dX4_mean_24 : decode cX4_mean 24 = .ok (.iconst 0, 1) := by decide +kernel
theorem dX4_mean_25 : decode cX4_mean 25 = .ok (.istore 4, 2) := by decide +kernel
theorem dX4_mean_27 : decode cX4_mean 27 = .ok (.iload 4, 2) := by decide +kernel
theorem dX4_mean_29 : decode cX4_mean 29 = .ok (.aload_n 0, 1) := by decide +kernel
theorem dX4_mean_30 : decode cX4_mean 30 = .ok (.getfield 69, 3) := by decide +kernel
theorem dX4_mean_33 : decode cX4_mean 33 = .ok (.if_icmp .ge 21, 3) := by decide +kernel
theorem dX4_mean_36 : decode cX4_mean 36 = .ok (.lload_n 2, 1) := by decide +kernel
theorem dX4_mean_37 : decode cX4_mean 37 = .ok (.aload_n 0, 1) := by decide +kernel
theorem dX4_mean_38 : decode cX4_mean 38 = .ok (.getfield 30, 3) := by decide +kernel
theorem dX4_mean_41 : decode cX4_mean 41 = .ok (.iload 4, 2) := by decide +kernel
theorem dX4_mean_43 : decode cX4_mean 43 = .ok (.invokevirtual 119, 3) := by decide +kernel
theorem dX4_mean_46 : decode cX4_mean 46 = .ok (.ladd, 1) := by decide +kernel
theorem dX4_mean_47 : decode cX4_mean 47 = .ok (.lstore_n 2, 1) := by decide +kernel
theorem dX4_mean_48 : decode cX4_mean 48 = .ok (.iinc 4 1, 3) := by decide +kernel
theorem dX4_mean_51 : decode cX4_mean 51 = .ok (.goto (-24), 3) := by decide +kernel
theorem dX4_mean_54 : decode cX4_mean 54 = .ok (.lload_n 2, 1) := by decide +kernel
theorem dX4_mean_55 : decode cX4_mean 55 = .ok (.aload_n 0, 1) := by decide +kernel
theorem dX4_mean_56 : decode cX4_mean 56 = .ok (.getfield 30, 3) := by decide +kernel
theorem dX4_mean_59 : decode cX4_mean 59 = .ok (.invokevirtual 123, 3) := by decide +kernel
theorem dX4_mean_62 : decode cX4_mean 62 = .ok (.iload_n 1, 1) := by decide +kernel
theorem dX4_mean_63 : decode cX4_mean 63 = .ok (.invokestatic 127, 3) := by decide +kernel
theorem dX4_mean_66 : decode cX4_mean 66 = .ok (.lreturn, 1) := by decide +kernel
set_option maxRecDepth 20000 in
theorem ggX4_passes_X4_isWhich : GoodIn wsX4_passes wsX4_isWhich := goodIn_r _ [7] (by decide +kernel) (by decide +kernel)
set_option maxRecDepth 20000 in
theorem gX4_passes_X4_isWhich : GoodIn wsX4_passes (va_wsS RX4 114 yX4_isWhich wsX4_isWhich) := goodIn_app (goodIn_of _ (by decide +kernel)) ggX4_passes_X4_isWhich
set_option maxRecDepth 20000 in
theorem ggX4_passes_X4_fillDrum : GoodIn wsX4_passes wsX4_fillDrum := goodIn_r _ [11, 3, 1, 12, 13, 14, 15, 16, 17, 18, 19, 20, 21, 22, 23, 24, 25, 26, 27, 28, 29, 30, 31, 32, 33, 34, 35, 6, 36, 37, 38, 39, 40, 41, 42, 43, 44, 45, 46, 47, 48, 49, 50, 51, 52, 53, 54, 55, 101, 102, 103, 104, 105, 106, 107, 108, 109, 110, 111, 112, 113, 114, 115, 116, 117, 118, 119, 120, 121] (by decide +kernel) (by decide +kernel)
set_option maxRecDepth 20000 in
theorem gX4_passes_X4_fillDrum : GoodIn wsX4_passes (wsV RX4 108 RX4 yX4_fillDrum wsX4_fillDrum) := goodIn_app (goodIn_of _ (by decide +kernel)) ggX4_passes_X4_fillDrum
set_option maxRecDepth 20000 in
theorem ggX4_passes_X1_drawsPassing : GoodIn wsX4_passes wsX1_drawsPassing := goodIn_r _ [58, 59, 60, 61, 14, 62, 24, 63, 64, 65, 66, 67, 68, 69, 70, 71, 32, 26, 17, 18, 19, 20, 72, 73, 74, 75, 76, 77, 78, 79, 80, 81, 82, 49, 83, 84, 85, 86, 87, 88, 89, 90, 25, 91, 92, 93, 94, 115, 116, 117, 118, 119, 120, 121] (by decide +kernel) (by decide +kernel)
set_option maxRecDepth 20000 in
theorem gX4_passes_X1_drawsPassing_n137 : GoodIn wsX4_passes (wsX1_drawsPassing) := ggX4_passes_X1_drawsPassing
set_option maxRecDepth 20000 in
theorem ggX4_passes_X1_draws : GoodIn wsX4_passes wsX1_draws := goodIn_r _ [97, 26, 68, 69, 70, 14, 71, 32, 17, 18, 19, 20, 50, 51, 52, 115, 116, 117, 118, 119, 120, 121] (by decide +kernel) (by decide +kernel)
set_option maxRecDepth 20000 in
theorem gX4_passes_X1_draws_n123 : GoodIn wsX4_passes (wsX1_draws) := ggX4_passes_X1_draws
set_option maxRecDepth 20000 in
theorem ggX4_passes_X4_partOf : GoodIn wsX4_passes wsX4_partOf := goodIn_r _ [100] (by decide +kernel) (by decide +kernel)
set_option maxRecDepth 20000 in
theorem gX4_passes_X4_partOf : GoodIn wsX4_passes (va_wsS RX4 127 yX4_partOf wsX4_partOf) := goodIn_app (goodIn_of _ (by decide +kernel)) ggX4_passes_X4_partOf
theorem dX4_passes_0 : decode cX4_passes 0 = .ok (.aload_n 0, 1) := by decide +kernel
theorem dX4_passes_1 : decode cX4_passes 1 = .ok (.getfield 69, 3) := by decide +kernel
theorem dX4_passes_4 : decode cX4_passes 4 = .ok (.ifCond .eq 10, 3) := by decide +kernel
theorem dX4_passes_7 : decode cX4_passes 7 = .ok (.iload_n 1, 1) := by decide +kernel
theorem dX4_passes_8 : decode cX4_passes 8 = .ok (.invokestatic 114, 3) := by decide +kernel
theorem dX4_passes_11 : decode cX4_passes 11 = .ok (.ifCond .ne 7, 3) := by decide +kernel
theorem dX4_passes_14 : decode cX4_passes 14 = .ok (.ldc2_w 117, 3) := by decide +kernel
theorem dX4_passes_17 : decode cX4_passes 17 = .ok (.lreturn, 1) := by decide +kernel
theorem dX4_passes_18 : decode cX4_passes 18 = .ok (.aload_n 0, 1) := by decide +kernel
theorem dX4_passes_19 : decode cX4_passes 19 = .ok (.invokevirtual 108, 3) := by decide +kernel
theorem dX4_passes_22 : decode cX4_passes 22 = .ok (.aload_n 0, 1) := by decide +kernel
theorem dX4_passes_23 : decode cX4_passes 23 = .ok (.getfield 30, 3) := by decide +kernel
theorem dX4_passes_26 : decode cX4_passes 26 = .ok (.invokevirtual 137, 3) := by decide +kernel
theorem dX4_passes_29 : decode cX4_passes 29 = .ok (.aload_n 0, 1) := by decide +kernel
theorem dX4_passes_30 : decode cX4_passes 30 = .ok (.getfield 30, 3) := by decide +kernel
theorem dX4_passes_33 : decode cX4_passes 33 = .ok (.invokevirtual 123, 3) := by decide +kernel
theorem dX4_passes_36 : decode cX4_passes 36 = .ok (.iload_n 1, 1) := by decide +kernel
theorem dX4_passes_37 : decode cX4_passes 37 = .ok (.invokestatic 127, 3) := by decide +kernel
theorem dX4_passes_40 : decode cX4_passes 40 = .ok (.lreturn, 1) := by decide +kernel
set_option maxRecDepth 20000 in
theorem ggX4_buy_X4_citizen : GoodIn wsX4_buy wsX4_citizen := goodIn_r _ [7, 8, 9, 67, 68, 69, 70, 71, 72, 73, 74, 75, 76] (by decide +kernel) (by decide +kernel)
set_option maxRecDepth 20000 in
theorem gX4_buy_X4_citizen : GoodIn wsX4_buy (wsV RX4 72 RX4 yX4_citizen wsX4_citizen) := goodIn_app (goodIn_of _ (by decide +kernel)) ggX4_buy_X4_citizen
set_option maxRecDepth 20000 in
theorem ggX4_buy_X4_fillDrum : GoodIn wsX4_buy wsX4_fillDrum := goodIn_r _ [13, 2, 8, 14, 15, 16, 17, 18, 19, 20, 21, 22, 23, 24, 25, 26, 27, 28, 29, 30, 31, 32, 33, 34, 3, 4, 5, 6, 7, 9, 35, 36, 37, 38, 39, 40, 41, 42, 43, 44, 45, 46, 47, 48, 49, 50, 51, 52, 67, 68, 69, 70, 71, 72, 73, 74, 75, 76, 77, 78, 79, 80, 81, 82, 83, 84, 85, 86, 87] (by decide +kernel) (by decide +kernel)
set_option maxRecDepth 20000 in
theorem gX4_buy_X4_fillDrum : GoodIn wsX4_buy (wsV RX4 108 RX4 yX4_fillDrum wsX4_fillDrum) := goodIn_app (goodIn_of _ (by decide +kernel)) ggX4_buy_X4_fillDrum
set_option maxRecDepth 20000 in
theorem ggX4_buy_X0_slips : GoodIn wsX4_buy wsX0_slips := goodIn_r _ [38, 39, 40, 41, 6, 42, 77, 78, 79, 80] (by decide +kernel) (by decide +kernel)
set_option maxRecDepth 20000 in
theorem gX4_buy_X0_slips_n89 : GoodIn wsX4_buy (wsX0_slips) := ggX4_buy_X0_slips
set_option maxRecDepth 20000 in
theorem ggX4_buy_X1_setSlips : GoodIn wsX4_buy wsX1_setSlips := goodIn_r _ [45, 29, 28, 46, 47, 48, 16, 49, 81, 82, 83, 84, 85, 86, 87] (by decide +kernel) (by decide +kernel)
set_option maxRecDepth 20000 in
theorem gX4_buy_X1_setSlips_n140 : GoodIn wsX4_buy (wsX1_setSlips) := ggX4_buy_X1_setSlips
set_option maxRecDepth 20000 in
theorem ggX4_buy_X1_draws : GoodIn wsX4_buy wsX1_draws := goodIn_r _ [55, 28, 56, 57, 58, 16, 59, 34, 19, 20, 21, 22, 47, 48, 49, 81, 82, 83, 84, 85, 86, 87] (by decide +kernel) (by decide +kernel)
set_option maxRecDepth 20000 in
theorem gX4_buy_X1_draws_n123 : GoodIn wsX4_buy (wsX1_draws) := ggX4_buy_X1_draws
set_option maxRecDepth 20000 in
theorem ggX4_buy_X1_drawsSparing : GoodIn wsX4_buy wsX1_drawsSparing := goodIn_r _ [62, 28, 63, 64, 65, 16, 66, 29, 56, 57, 58, 59, 34, 19, 20, 21, 22, 47, 48, 49, 81, 82, 83, 84, 85, 86, 87] (by decide +kernel) (by decide +kernel)
set_option maxRecDepth 20000 in
theorem gX4_buy_X1_drawsSparing_n119 : GoodIn wsX4_buy (wsX1_drawsSparing) := ggX4_buy_X1_drawsSparing
theorem dX4_buy_0 : decode cX4_buy 0 = .ok (.aload_n 0, 1) := by decide +kernel
theorem dX4_buy_1 : decode cX4_buy 1 = .ok (.iload_n 1, 1) := by decide +kernel
theorem dX4_buy_2 : decode cX4_buy 2 = .ok (.invokevirtual 72, 3) := by decide +kernel
theorem dX4_buy_5 : decode cX4_buy 5 = .ok (.astore 4, 2) := by decide +kernel
theorem dX4_buy_7 : decode cX4_buy 7 = .ok (.aload 4, 2) := by decide +kernel
theorem dX4_buy_9 : decode cX4_buy 9 = .ok (.ifnonnull 5, 3) := by decide +kernel
theorem dX4_buy_12 : decode cX4_buy 12 = .ok (.iconst (-1), 1) := by decide +kernel
theorem dX4_buy_13 : decode cX4_buy 13 = .ok (.ireturn, 1) := by decide +kernel
theorem dX4_buy_14 : decode cX4_buy 14 = .ok (.iload_n 2, 1) := by decide +kernel
theorem dX4_buy_15 : decode cX4_buy 15 = .ok (.ifCond .lt 22, 3) := by decide +kernel
theorem dX4_buy_18 : decode cX4_buy 18 = .ok (.iload_n 2, 1) := by decide +kernel
theorem dX4_buy_19 : decode cX4_buy 19 = .ok (.sipush 999, 3) := by decide +kernel
theorem dX4_buy_22 : decode cX4_buy 22 = .ok (.if_icmp .gt 15, 3) := by decide +kernel
theorem dX4_buy_25 : decode cX4_buy 25 = .ok (.iload_n 3, 1) := by decide +kernel
theorem dX4_buy_26 : decode cX4_buy 26 = .ok (.iconst 1, 1) := by decide +kernel
theorem dX4_buy_27 : decode cX4_buy 27 = .ok (.if_icmp .lt 10, 3) := by decide +kernel
theorem dX4_buy_30 : decode cX4_buy 30 = .ok (.iload_n 3, 1) := by decide +kernel
theorem dX4_buy_31 : decode cX4_buy 31 = .ok (.sipush 999, 3) := by decide +kernel
theorem dX4_buy_34 : decode cX4_buy 34 = .ok (.if_icmp .le 6, 3) := by decide +kernel
theorem dX4_buy_37 : decode cX4_buy 37 = .ok (.bipush (-2), 2) := by decide +kernel
theorem dX4_buy_39 : decode cX4_buy 39 = .ok (.ireturn, 1) := by decide +kernel
theorem dX4_buy_40 : decode cX4_buy 40 = .ok (.aload_n 0, 1) := by decide +kernel
theorem dX4_buy_41 : decode cX4_buy 41 = .ok (.invokevirtual 108, 3) := by decide +kernel
theorem dX4_buy_44 : decode cX4_buy 44 = .ok (.iconst 0, 1) := by decide +kernel
theorem dX4_buy_45 : decode cX4_buy 45 = .ok (.istore 5, 2) := by decide +kernel
theorem dX4_buy_47 : decode cX4_buy 47 = .ok (.iload 5, 2) := by decide +kernel
theorem dX4_buy_49 : decode cX4_buy 49 = .ok (.bipush 20, 2) := by decide +kernel
theorem dX4_buy_51 : decode cX4_buy 51 = .ok (.if_icmp .gt 80, 3) := by decide +kernel
theorem dX4_buy_54 : decode cX4_buy 54 = .ok (.iload 5, 2) := by decide +kernel
theorem dX4_buy_56 : decode cX4_buy 56 = .ok (.aload_n 0, 1) := by decide +kernel
theorem dX4_buy_57 : decode cX4_buy 57 = .ok (.getfield 99, 3) := by decide +kernel
theorem dX4_buy_60 : decode cX4_buy 60 = .ok (.imul, 1) := by decide +kernel
theorem dX4_buy_61 : decode cX4_buy 61 = .ok (.aload 4, 2) := by decide +kernel
theorem dX4_buy_63 : decode cX4_buy 63 = .ok (.getfield 82, 3) := by decide +kernel
theorem dX4_buy_66 : decode cX4_buy 66 = .ok (.if_icmp .gt 65, 3) := by decide +kernel
theorem dX4_buy_69 : decode cX4_buy 69 = .ok (.aload_n 0, 1) := by decide +kernel
theorem dX4_buy_70 : decode cX4_buy 70 = .ok (.getfield 30, 3) := by decide +kernel
theorem dX4_buy_73 : decode cX4_buy 73 = .ok (.iload_n 1, 1) := by decide +kernel
theorem dX4_buy_74 : decode cX4_buy 74 = .ok (.aload 4, 2) := by decide +kernel
theorem dX4_buy_76 : decode cX4_buy 76 = .ok (.invokevirtual 89, 3) := by decide +kernel
theorem dX4_buy_79 : decode cX4_buy 79 = .ok (.iload 5, 2) := by decide +kernel
theorem dX4_buy_81 : decode cX4_buy 81 = .ok (.iadd, 1) := by decide +kernel
theorem dX4_buy_82 : decode cX4_buy 82 = .ok (.invokevirtual 140, 3) := by decide +kernel
theorem dX4_buy_85 : decode cX4_buy 85 = .ok (.aload_n 0, 1) := by decide +kernel
theorem dX4_buy_86 : decode cX4_buy 86 = .ok (.getfield 30, 3) := by decide +kernel
theorem dX4_buy_89 : decode cX4_buy 89 = .ok (.invokevirtual 123, 3) := by decide +kernel
theorem dX4_buy_92 : decode cX4_buy 92 = .ok (.aload_n 0, 1) := by decide +kernel
theorem dX4_buy_93 : decode cX4_buy 93 = .ok (.getfield 30, 3) := by decide +kernel
theorem dX4_buy_96 : decode cX4_buy 96 = .ok (.iload_n 1, 1) := by decide +kernel
theorem dX4_buy_97 : decode cX4_buy 97 = .ok (.invokevirtual 119, 3) := by decide +kernel
theorem dX4_buy_100 : decode cX4_buy 100 = .ok (.lsub, 1) := by decide +kernel
theorem dX4_buy_101 : decode cX4_buy 101 = .ok (.lstore 6, 2) := by decide +kernel
theorem dX4_buy_103 : decode cX4_buy 103 = .ok (.lload 6, 2) := by decide +kernel
theorem dX4_buy_105 : decode cX4_buy 105 = .ok (.iload_n 3, 1) := by decide +kernel
theorem dX4_buy_106 : decode cX4_buy 106 = .ok (.i2l, 1) := by decide +kernel
theorem dX4_buy_107 : decode cX4_buy 107 = .ok (.lmul, 1) := by decide +kernel
theorem dX4_buy_108 : decode cX4_buy 108 = .ok (.iload_n 2, 1) := by decide +kernel
theorem dX4_buy_109 : decode cX4_buy 109 = .ok (.i2l, 1) := by decide +kernel
theorem dX4_buy_110 : decode cX4_buy 110 = .ok (.aload_n 0, 1) := by decide +kernel
theorem dX4_buy_111 : decode cX4_buy 111 = .ok (.getfield 30, 3) := by decide +kernel
theorem dX4_buy_114 : decode cX4_buy 114 = .ok (.invokevirtual 123, 3) := by decide +kernel
theorem dX4_buy_117 : decode cX4_buy 117 = .ok (.lmul, 1) := by decide +kernel
theorem dX4_buy_118 : decode cX4_buy 118 = .ok (.lcmp, 1) := by decide +kernel
theorem dX4_buy_119 : decode cX4_buy 119 = .ok (.ifCond .lt 6, 3) := by decide +kernel
theorem dX4_buy_122 : decode cX4_buy 122 = .ok (.iload 5, 2) := by decide +kernel
theorem dX4_buy_124 : decode cX4_buy 124 = .ok (.ireturn, 1) := by decide +kernel
theorem dX4_buy_125 : decode cX4_buy 125 = .ok (.iinc 5 1, 3) := by decide +kernel
theorem dX4_buy_128 : decode cX4_buy 128 = .ok (.goto (-81), 3) := by decide +kernel
theorem dX4_buy_131 : decode cX4_buy 131 = .ok (.bipush (-9), 2) := by decide +kernel
theorem dX4_buy_133 : decode cX4_buy 133 = .ok (.ireturn, 1) := by decide +kernel
set_option maxRecDepth 20000 in
theorem ggX4_lend_X4_citizen : GoodIn wsX4_lend wsX4_citizen := goodIn_r _ [7, 2, 8, 103, 104, 105, 106, 107, 108, 109, 110, 111, 112] (by decide +kernel) (by decide +kernel)
set_option maxRecDepth 20000 in
theorem gX4_lend_X4_citizen : GoodIn wsX4_lend (wsV RX4 72 RX4 yX4_citizen wsX4_citizen) := goodIn_app (goodIn_of _ (by decide +kernel)) ggX4_lend_X4_citizen
set_option maxRecDepth 20000 in
theorem ggX4_lend_X4_fillDrum : GoodIn wsX4_lend wsX4_fillDrum := goodIn_r _ [12, 1, 2, 13, 14, 15, 16, 17, 18, 19, 20, 21, 22, 23, 24, 25, 26, 27, 28, 29, 30, 31, 32, 33, 3, 4, 5, 6, 7, 8, 34, 35, 36, 37, 38, 39, 40, 41, 42, 43, 44, 45, 46, 47, 48, 49, 50, 51, 103, 104, 105, 106, 107, 108, 109, 110, 111, 112, 99, 100, 101, 102, 113, 114, 115, 116, 117, 118, 119] (by decide +kernel) (by decide +kernel)
set_option maxRecDepth 20000 in
theorem gX4_lend_X4_fillDrum : GoodIn wsX4_lend (wsV RX4 108 RX4 yX4_fillDrum wsX4_fillDrum) := goodIn_app (goodIn_of _ (by decide +kernel)) ggX4_lend_X4_fillDrum
set_option maxRecDepth 20000 in
theorem ggX4_lend_X1_drawsPassing : GoodIn wsX4_lend wsX1_drawsPassing := goodIn_r _ [54, 55, 56, 57, 15, 58, 25, 59, 60, 61, 62, 63, 64, 65, 66, 67, 33, 27, 18, 19, 20, 21, 68, 69, 70, 71, 72, 73, 74, 75, 76, 77, 78, 45, 79, 80, 81, 82, 83, 84, 85, 86, 26, 87, 88, 89, 90, 113, 114, 115, 116, 117, 118, 119] (by decide +kernel) (by decide +kernel)
set_option maxRecDepth 20000 in
theorem gX4_lend_X1_drawsPassing_n137 : GoodIn wsX4_lend (wsX1_drawsPassing) := ggX4_lend_X1_drawsPassing
set_option maxRecDepth 20000 in
theorem ggX4_lend_X1_draws : GoodIn wsX4_lend wsX1_draws := goodIn_r _ [93, 27, 64, 65, 66, 15, 67, 33, 18, 19, 20, 21, 46, 47, 48, 113, 114, 115, 116, 117, 118, 119] (by decide +kernel) (by decide +kernel)
set_option maxRecDepth 20000 in
theorem gX4_lend_X1_draws_n123 : GoodIn wsX4_lend (wsX1_draws) := ggX4_lend_X1_draws
set_option maxRecDepth 20000 in
theorem ggX4_lend_X4_slipsOf : GoodIn wsX4_lend wsX4_slipsOf := goodIn_r _ [41] (by decide +kernel) (by decide +kernel)
set_option maxRecDepth 20000 in
theorem gX4_lend_X4_slipsOf : GoodIn wsX4_lend (va_wsS RX4 144 yX4_slipsOf wsX4_slipsOf) := goodIn_app (goodIn_of _ (by decide +kernel)) ggX4_lend_X4_slipsOf
set_option maxRecDepth 20000 in
theorem ggX4_lend_X1_setSlips : GoodIn wsX4_lend wsX1_setSlips := goodIn_r _ [44, 28, 27, 45, 46, 47, 15, 48, 113, 114, 115, 116, 117, 118, 119] (by decide +kernel) (by decide +kernel)
set_option maxRecDepth 20000 in
theorem gX4_lend_X1_setSlips_n140 : GoodIn wsX4_lend (wsX1_setSlips) := ggX4_lend_X1_setSlips
set_option maxRecDepth 20000 in
theorem ggX4_lend_X4_isMore : GoodIn wsX4_lend wsX4_isMore := goodIn_r _ [97, 98] (by decide +kernel) (by decide +kernel)
set_option maxRecDepth 20000 in
theorem gX4_lend_X4_isMore : GoodIn wsX4_lend (va_wsS RX4 148 yX4_isMore wsX4_isMore) := goodIn_app (goodIn_of _ (by decide +kernel)) ggX4_lend_X4_isMore
set_option maxRecDepth 20000 in
theorem ggX4_lend_X0_slips : GoodIn wsX4_lend wsX0_slips := goodIn_r _ [37, 38, 39, 40, 6, 41, 99, 100, 101, 102] (by decide +kernel) (by decide +kernel)
set_option maxRecDepth 20000 in
theorem gX4_lend_X0_slips_n89 : GoodIn wsX4_lend (wsX0_slips) := ggX4_lend_X0_slips
theorem dX4_lend_0 : decode cX4_lend 0 = .ok (.aload_n 0, 1) := by decide +kernel
theorem dX4_lend_1 : decode cX4_lend 1 = .ok (.iload_n 1, 1) := by decide +kernel
theorem dX4_lend_2 : decode cX4_lend 2 = .ok (.invokevirtual 72, 3) := by decide +kernel
theorem dX4_lend_5 : decode cX4_lend 5 = .ok (.astore_n 2, 1) := by decide +kernel
theorem dX4_lend_6 : decode cX4_lend 6 = .ok (.aload_n 2, 1) := by decide +kernel
theorem dX4_lend_7 : decode cX4_lend 7 = .ok (.ifnonnull 5, 3) := by decide +kernel
theorem dX4_lend_10 : decode cX4_lend 10 = .ok (.iconst (-1), 1) := by decide +kernel
theorem dX4_lend_11 : decode cX4_lend 11 = .ok (.ireturn, 1) := by decide +kernel
theorem dX4_lend_12 : decode cX4_lend 12 = .ok (.aload_n 2, 1) := by decide +kernel
theorem dX4_lend_13 : decode cX4_lend 13 = .ok (.getfield 79, 3) := by decide +kernel
theorem dX4_lend_16 : decode cX4_lend 16 = .ok (.iconst 2, 1) := by decide +kernel
theorem dX4_lend_17 : decode cX4_lend 17 = .ok (.if_icmp .ge 6, 3) := by decide +kernel
theorem dX4_lend_20 : decode cX4_lend 20 = .ok (.bipush (-3), 2) := by decide +kernel
theorem dX4_lend_22 : decode cX4_lend 22 = .ok (.ireturn, 1) := by decide +kernel
theorem dX4_lend_23 : decode cX4_lend 23 = .ok (.aload_n 0, 1) := by decide +kernel
theorem dX4_lend_24 : decode cX4_lend 24 = .ok (.invokevirtual 108, 3) := by decide +kernel
theorem dX4_lend_27 : decode cX4_lend 27 = .ok (.aload_n 0, 1) := by decide +kernel
theorem dX4_lend_28 : decode cX4_lend 28 = .ok (.getfield 30, 3) := by decide +kernel
theorem dX4_lend_31 : decode cX4_lend 31 = .ok (.invokevirtual 137, 3) := by decide +kernel
theorem dX4_lend_34 : decode cX4_lend 34 = .ok (.lstore_n 3, 1) := by decide +kernel
theorem dX4_lend_35 : decode cX4_lend 35 = .ok (.aload_n 0, 1) := by decide +kernel
theorem dX4_lend_36 : decode cX4_lend 36 = .ok (.getfield 30, 3) := by decide +kernel
theorem dX4_lend_39 : decode cX4_lend 39 = .ok (.invokevirtual 123, 3) := by decide +kernel
theorem dX4_lend_42 : decode cX4_lend 42 = .ok (.lstore 5, 2) := by decide +kernel
theorem dX4_lend_44 : decode cX4_lend 44 = .ok (.bipush (-9), 2) := by decide +kernel
theorem dX4_lend_46 : decode cX4_lend 46 = .ok (.istore 7, 2) := by decide +kernel
theorem dX4_lend_48 : decode cX4_lend 48 = .ok (.aload_n 0, 1) := by decide +kernel
theorem dX4_lend_49 : decode cX4_lend 49 = .ok (.getfield 30, 3) := by decide +kernel
theorem dX4_lend_52 : decode cX4_lend 52 = .ok (.iload_n 1, 1) := by decide +kernel
theorem dX4_lend_53 : decode cX4_lend 53 = .ok (.aload_n 2, 1) := by decide +kernel
theorem dX4_lend_54 : decode cX4_lend 54 = .ok (.getfield 76, 3) := by decide +kernel
theorem dX4_lend_57 : decode cX4_lend 57 = .ok (.aload_n 2, 1) := by decide +kernel
theorem dX4_lend_58 : decode cX4_lend 58 = .ok (.getfield 79, 3) := by decide +kernel
theorem dX4_lend_61 : decode cX4_lend 61 = .ok (.iconst 1, 1) := by decide +kernel
theorem dX4_lend_62 : decode cX4_lend 62 = .ok (.isub, 1) := by decide +kernel
theorem dX4_lend_63 : decode cX4_lend 63 = .ok (.invokestatic 144, 3) := by decide +kernel
theorem dX4_lend_66 : decode cX4_lend 66 = .ok (.invokevirtual 140, 3) := by decide +kernel
theorem dX4_lend_69 : decode cX4_lend 69 = .ok (.iconst 0, 1) := by decide +kernel
theorem dX4_lend_70 : decode cX4_lend 70 = .ok (.istore 8, 2) := by decide +kernel
theorem dX4_lend_72 : decode cX4_lend 72 = .ok (.iload 8, 2) := by decide +kernel
theorem dX4_lend_74 : decode cX4_lend 74 = .ok (.aload_n 0, 1) := by decide +kernel
theorem dX4_lend_75 : decode cX4_lend 75 = .ok (.getfield 69, 3) := by decide +kernel
theorem dX4_lend_78 : decode cX4_lend 78 = .ok (.if_icmp .ge 111, 3) := by decide +kernel
theorem dX4_lend_81 : decode cX4_lend 81 = .ok (.aload_n 0, 1) := by decide +kernel
theorem dX4_lend_82 : decode cX4_lend 82 = .ok (.iload 8, 2) := by decide +kernel
theorem dX4_lend_84 : decode cX4_lend 84 = .ok (.invokevirtual 72, 3) := by decide +kernel
theorem dX4_lend_87 : decode cX4_lend 87 = .ok (.astore 9, 2) := by decide +kernel
theorem dX4_lend_89 : decode cX4_lend 89 = .ok (.iload 8, 2) := by decide +kernel
theorem dX4_lend_91 : decode cX4_lend 91 = .ok (.iload_n 1, 1) := by decide +kernel
theorem dX4_lend_92 : decode cX4_lend 92 = .ok (.if_icmp .eq 91, 3) := by decide +kernel
theorem dX4_lend_95 : decode cX4_lend 95 = .ok (.aload 9, 2) := by decide +kernel
theorem dX4_lend_97 : decode cX4_lend 97 = .ok (.ifnonnull 6, 3) := by decide +kernel
theorem dX4_lend_100 : decode cX4_lend 100 = .ok (.goto 83, 3) := by decide +kernel
theorem dX4_lend_103 : decode cX4_lend 103 = .ok (.aload_n 0, 1) := by decide +kernel
theorem dX4_lend_104 : decode cX4_lend 104 = .ok (.getfield 30, 3) := by decide +kernel
theorem dX4_lend_107 : decode cX4_lend 107 = .ok (.iload 8, 2) := by decide +kernel
theorem dX4_lend_109 : decode cX4_lend 109 = .ok (.aload 9, 2) := by decide +kernel
theorem dX4_lend_111 : decode cX4_lend 111 = .ok (.getfield 76, 3) := by decide +kernel
theorem dX4_lend_114 : decode cX4_lend 114 = .ok (.aload 9, 2) := by decide +kernel
theorem dX4_lend_116 : decode cX4_lend 116 = .ok (.getfield 79, 3) := by decide +kernel
theorem dX4_lend_119 : decode cX4_lend 119 = .ok (.iconst 1, 1) := by decide +kernel
theorem dX4_lend_120 : decode cX4_lend 120 = .ok (.iadd, 1) := by decide +kernel
theorem dX4_lend_121 : decode cX4_lend 121 = .ok (.invokestatic 144, 3) := by decide +kernel
theorem dX4_lend_124 : decode cX4_lend 124 = .ok (.invokevirtual 140, 3) := by decide +kernel
theorem dX4_lend_127 : decode cX4_lend 127 = .ok (.aload_n 0, 1) := by decide +kernel
theorem dX4_lend_128 : decode cX4_lend 128 = .ok (.getfield 30, 3) := by decide +kernel
theorem dX4_lend_131 : decode cX4_lend 131 = .ok (.invokevirtual 137, 3) := by decide +kernel
theorem dX4_lend_134 : decode cX4_lend 134 = .ok (.lstore 10, 2) := by decide +kernel
theorem dX4_lend_136 : decode cX4_lend 136 = .ok (.aload_n 0, 1) := by decide +kernel
theorem dX4_lend_137 : decode cX4_lend 137 = .ok (.getfield 30, 3) := by decide +kernel
theorem dX4_lend_140 : decode cX4_lend 140 = .ok (.invokevirtual 123, 3) := by decide +kernel
theorem dX4_lend_143 : decode cX4_lend 143 = .ok (.lstore 12, 2) := by decide +kernel
theorem dX4_lend_145 : decode cX4_lend 145 = .ok (.lload 10, 2) := by decide +kernel
theorem dX4_lend_147 : decode cX4_lend 147 = .ok (.lload 12, 2) := by decide +kernel
theorem dX4_lend_149 : decode cX4_lend 149 = .ok (.lload_n 3, 1) := by decide +kernel
theorem dX4_lend_150 : decode cX4_lend 150 = .ok (.lload 5, 2) := by decide +kernel
theorem dX4_lend_152 : decode cX4_lend 152 = .ok (.invokestatic 148, 3) := by decide +kernel
theorem dX4_lend_155 : decode cX4_lend 155 = .ok (.ifCond .eq 14, 3) := by decide +kernel
theorem dX4_lend_158 : decode cX4_lend 158 = .ok (.lload 10, 2) := by decide +kernel
theorem dX4_lend_160 : decode cX4_lend 160 = .ok (.lstore_n 3, 1) := by decide +kernel
theorem dX4_lend_161 : decode cX4_lend 161 = .ok (.lload 12, 2) := by decide +kernel
theorem dX4_lend_163 : decode cX4_lend 163 = .ok (.lstore 5, 2) := by decide +kernel
theorem dX4_lend_165 : decode cX4_lend 165 = .ok (.iload 8, 2) := by decide +kernel
theorem dX4_lend_167 : decode cX4_lend 167 = .ok (.istore 7, 2) := by decide +kernel
theorem dX4_lend_169 : decode cX4_lend 169 = .ok (.aload_n 0, 1) := by decide +kernel
theorem dX4_lend_170 : decode cX4_lend 170 = .ok (.getfield 30, 3) := by decide +kernel
theorem dX4_lend_173 : decode cX4_lend 173 = .ok (.iload 8, 2) := by decide +kernel
theorem dX4_lend_175 : decode cX4_lend 175 = .ok (.aload 9, 2) := by decide +kernel
theorem dX4_lend_177 : decode cX4_lend 177 = .ok (.invokevirtual 89, 3) := by decide +kernel
theorem dX4_lend_180 : decode cX4_lend 180 = .ok (.invokevirtual 140, 3) := by decide +kernel
theorem dX4_lend_183 : decode cX4_lend 183 = .ok (.iinc 8 1, 3) := by decide +kernel
theorem dX4_lend_186 : decode cX4_lend 186 = .ok (.goto (-114), 3) := by decide +kernel
theorem dX4_lend_189 : decode cX4_lend 189 = .ok (.iload 7, 2) := by decide +kernel
theorem dX4_lend_191 : decode cX4_lend 191 = .ok (.ireturn, 1) := by decide +kernel
end
section
set_option maxRecDepth 20000 in
theorem ggX4_least_X4_fillDrum : GoodIn wsX4_least wsX4_fillDrum := goodIn_r _ [8, 2, 1, 9, 10, 11, 12, 13, 14, 15, 16, 17, 18, 19, 20, 21, 22, 23, 24, 25, 26, 27, 28, 29, 30, 31, 32, 7, 33, 34, 35, 36, 37, 38, 39, 40, 41, 42, 43, 44, 45, 46, 47, 48, 49, 50, 51, 52, 101, 102, 103, 104, 105, 106, 107, 108, 109, 110, 111, 112, 113, 114, 115, 116, 117, 118, 119, 120, 121] (by decide +kernel) (by decide +kernel)
set_option maxRecDepth 20000 in
theorem gX4_least_X4_fillDrum : GoodIn wsX4_least (wsV RX4 108 RX4 yX4_fillDrum wsX4_fillDrum) := goodIn_app (goodIn_of _ (by decide +kernel)) ggX4_least_X4_fillDrum
set_option maxRecDepth 20000 in
theorem ggX4_least_X1_passesByHalf : GoodIn wsX4_least wsX1_passesByHalf := goodIn_r _ [55, 56, 57, 58, 59, 11, 60, 61, 62, 63, 64, 21, 65, 66, 67, 68, 69, 70, 71, 72, 73, 29, 23, 14, 15, 16, 17, 74, 75, 76, 77, 78, 79, 80, 81, 82, 83, 84, 46, 85, 86, 87, 88, 89, 90, 91, 92, 22, 93, 94, 95, 96, 97, 98, 99, 100, 47, 48, 49, 115, 116, 117, 118, 119, 120, 121] (by decide +kernel) (by decide +kernel)
set_option maxRecDepth 20000 in
theorem gX4_least_X1_passesByHalf_n152 : GoodIn wsX4_least (wsX1_passesByHalf) := ggX4_least_X1_passesByHalf
set_option maxRecDepth 20000 in
theorem ggX4_least_X4_citizen : GoodIn wsX4_least wsX4_citizen := goodIn_r _ [33, 1, 34, 101, 102, 103, 104, 105, 106, 107, 108, 109, 110] (by decide +kernel) (by decide +kernel)
set_option maxRecDepth 20000 in
theorem gX4_least_X4_citizen : GoodIn wsX4_least (wsV RX4 72 RX4 yX4_citizen wsX4_citizen) := goodIn_app (goodIn_of _ (by decide +kernel)) ggX4_least_X4_citizen
set_option maxRecDepth 20000 in
theorem ggX4_least_X1_setWishes : GoodIn wsX4_least wsX1_setWishes := goodIn_r _ [52, 22, 115, 116, 117, 118, 119, 120, 121] (by decide +kernel) (by decide +kernel)
set_option maxRecDepth 20000 in
theorem gX4_least_X1_setWishes_n156 : GoodIn wsX4_least (wsX1_setWishes) := ggX4_least_X1_setWishes
theorem dX4_least_0 : decode cX4_least 0 = .ok (.iload_n 1, 1) := by decide +kernel
theorem dX4_least_1 : decode cX4_least 1 = .ok (.ifCond .lt 8, 3) := by decide +kernel
theorem dX4_least_4 : decode cX4_least 4 = .ok (.iload_n 1, 1) := by decide +kernel
theorem dX4_least_5 : decode cX4_least 5 = .ok (.iconst 1, 1) := by decide +kernel
theorem dX4_least_6 : decode cX4_least 6 = .ok (.if_icmp .le 6, 3) := by decide +kernel
theorem dX4_least_9 : decode cX4_least 9 = .ok (.bipush (-2), 2) := by decide +kernel
theorem dX4_least_11 : decode cX4_least 11 = .ok (.ireturn, 1) := by decide +kernel
theorem dX4_least_12 : decode cX4_least 12 = .ok (.aload_n 0, 1) := by decide +kernel
theorem dX4_least_13 : decode cX4_least 13 = .ok (.getfield 69, 3) := by decide +kernel
theorem dX4_least_16 : decode cX4_least 16 = .ok (.ifCond .ne 6, 3) := by decide +kernel
theorem dX4_least_19 : decode cX4_least 19 = .ok (.bipush (-3), 2) := by decide +kernel
theorem dX4_least_21 : decode cX4_least 21 = .ok (.ireturn, 1) := by decide +kernel
theorem dX4_least_22 : decode cX4_least 22 = .ok (.aload_n 0, 1) := by decide +kernel
theorem dX4_least_23 : decode cX4_least 23 = .ok (.invokevirtual 108, 3) := by decide +kernel
theorem dX4_least_26 : decode cX4_least 26 = .ok (.aload_n 0, 1) := by decide +kernel
theorem dX4_least_27 : decode cX4_least 27 = .ok (.getfield 30, 3) := by decide +kernel
theorem dX4_least_30 : decode cX4_least 30 = .ok (.invokevirtual 152, 3) := by decide +kernel
theorem dX4_least_33 : decode cX4_least 33 = .ok (.ifCond .eq 14, 3) := by decide +kernel
theorem dX4_least_36 : decode cX4_least 36 = .ok (.iload_n 1, 1) := by decide +kernel
theorem dX4_least_37 : decode cX4_least 37 = .ok (.ifCond .ne 7, 3) := by decide +kernel
theorem dX4_least_40 : decode cX4_least 40 = .ok (.iconst 0, 1) := by decide +kernel
theorem dX4_least_41 : decode cX4_least 41 = .ok (.goto 5, 3) := by decide +kernel
theorem dX4_least_44 : decode cX4_least 44 = .ok (.bipush (-9), 2) := by decide +kernel
theorem dX4_least_46 : decode cX4_least 46 = .ok (.ireturn, 1) := by decide +kernel
theorem dX4_least_47 : decode cX4_least 47 = .ok (.bipush (-9), 2) := by decide +kernel
theorem dX4_least_49 : decode cX4_least 49 = .ok (.istore_n 2, 1) := by decide +kernel
theorem dX4_least_50 : decode cX4_least 50 = .ok (.bipush (-9), 2) := by decide +kernel
theorem dX4_least_52 : decode cX4_least 52 = .ok (.istore_n 3, 1) := by decide +kernel
theorem dX4_least_53 : decode cX4_least 53 = .ok (.iconst 0, 1) := by decide +kernel
theorem dX4_least_54 : decode cX4_least 54 = .ok (.istore 4, 2) := by decide +kernel
theorem dX4_least_56 : decode cX4_least 56 = .ok (.iload 4, 2) := by decide +kernel
theorem dX4_least_58 : decode cX4_least 58 = .ok (.aload_n 0, 1) := by decide +kernel
theorem dX4_least_59 : decode cX4_least 59 = .ok (.getfield 69, 3) := by decide +kernel
theorem dX4_least_62 : decode cX4_least 62 = .ok (.if_icmp .ge 99, 3) := by decide +kernel
theorem dX4_least_65 : decode cX4_least 65 = .ok (.aload_n 0, 1) := by decide +kernel
theorem dX4_least_66 : decode cX4_least 66 = .ok (.iload 4, 2) := by decide +kernel
theorem dX4_least_68 : decode cX4_least 68 = .ok (.invokevirtual 72, 3) := by decide +kernel
theorem dX4_least_71 : decode cX4_least 71 = .ok (.astore 5, 2) := by decide +kernel
theorem dX4_least_73 : decode cX4_least 73 = .ok (.aload 5, 2) := by decide +kernel
theorem dX4_least_75 : decode cX4_least 75 = .ok (.ifnull 80, 3) := by decide +kernel
theorem dX4_least_78 : decode cX4_least 78 = .ok (.aload 5, 2) := by decide +kernel
theorem dX4_least_80 : decode cX4_least 80 = .ok (.getfield 85, 3) := by decide +kernel
theorem dX4_least_83 : decode cX4_least 83 = .ok (.ifCond .eq 6, 3) := by decide +kernel
theorem dX4_least_86 : decode cX4_least 86 = .ok (.goto 69, 3) := by decide +kernel
theorem dX4_least_89 : decode cX4_least 89 = .ok (.aload 5, 2) := by decide +kernel
theorem dX4_least_91 : decode cX4_least 91 = .ok (.getfield 82, 3) := by decide +kernel
theorem dX4_least_94 : decode cX4_least 94 = .ok (.aload_n 0, 1) := by decide +kernel
theorem dX4_least_95 : decode cX4_least 95 = .ok (.getfield 99, 3) := by decide +kernel
theorem dX4_least_98 : decode cX4_least 98 = .ok (.aload 5, 2) := by decide +kernel
theorem dX4_least_100 : decode cX4_least 100 = .ok (.getfield 79, 3) := by decide +kernel
theorem dX4_least_103 : decode cX4_least 103 = .ok (.imul, 1) := by decide +kernel
theorem dX4_least_104 : decode cX4_least 104 = .ok (.iadd, 1) := by decide +kernel
theorem dX4_least_105 : decode cX4_least 105 = .ok (.istore 6, 2) := by decide +kernel
theorem dX4_least_107 : decode cX4_least 107 = .ok (.aload_n 0, 1) := by decide +kernel
theorem dX4_least_108 : decode cX4_least 108 = .ok (.getfield 30, 3) := by decide +kernel
theorem dX4_least_111 : decode cX4_least 111 = .ok (.iload 4, 2) := by decide +kernel
theorem dX4_least_113 : decode cX4_least 113 = .ok (.iconst 1, 1) := by decide +kernel
theorem dX4_least_114 : decode cX4_least 114 = .ok (.invokevirtual 156, 3) := by decide +kernel
theorem dX4_least_117 : decode cX4_least 117 = .ok (.aload_n 0, 1) := by decide +kernel
theorem dX4_least_118 : decode cX4_least 118 = .ok (.getfield 30, 3) := by decide +kernel
theorem dX4_least_121 : decode cX4_least 121 = .ok (.invokevirtual 152, 3) := by decide +kernel
theorem dX4_least_124 : decode cX4_least 124 = .ok (.ifCond .eq 21, 3) := by decide +kernel
theorem dX4_least_127 : decode cX4_least 127 = .ok (.iload_n 3, 1) := by decide +kernel
theorem dX4_least_128 : decode cX4_least 128 = .ok (.bipush (-9), 2) := by decide +kernel
theorem dX4_least_130 : decode cX4_least 130 = .ok (.if_icmp .eq 9, 3) := by decide +kernel
theorem dX4_least_133 : decode cX4_least 133 = .ok (.iload 6, 2) := by decide +kernel
theorem dX4_least_135 : decode cX4_least 135 = .ok (.iload_n 2, 1) := by decide +kernel
theorem dX4_least_136 : decode cX4_least 136 = .ok (.if_icmp .ge 9, 3) := by decide +kernel
theorem dX4_least_139 : decode cX4_least 139 = .ok (.iload 6, 2) := by decide +kernel
theorem dX4_least_141 : decode cX4_least 141 = .ok (.istore_n 2, 1) := by decide +kernel
theorem dX4_least_142 : decode cX4_least 142 = .ok (.iload 4, 2) := by decide +kernel
theorem dX4_least_144 : decode cX4_least 144 = .ok (.istore_n 3, 1) := by decide +kernel
theorem dX4_least_145 : decode cX4_least 145 = .ok (.aload_n 0, 1) := by decide +kernel
theorem dX4_least_146 : decode cX4_least 146 = .ok (.getfield 30, 3) := by decide +kernel
theorem dX4_least_149 : decode cX4_least 149 = .ok (.iload 4, 2) := by decide +kernel
theorem dX4_least_151 : decode cX4_least 151 = .ok (.iconst 0, 1) := by decide +kernel
theorem dX4_least_152 : decode cX4_least 152 = .ok (.invokevirtual 156, 3) := by decide +kernel
theorem dX4_least_155 : decode cX4_least 155 = .ok (.iinc 4 1, 3) := by decide +kernel
theorem dX4_least_158 : decode cX4_least 158 = .ok (.goto (-102), 3) := by decide +kernel
theorem dX4_least_161 : decode cX4_least 161 = .ok (.iload_n 1, 1) := by decide +kernel
theorem dX4_least_162 : decode cX4_least 162 = .ok (.ifCond .ne 7, 3) := by decide +kernel
theorem dX4_least_165 : decode cX4_least 165 = .ok (.iload_n 2, 1) := by decide +kernel
theorem dX4_least_166 : decode cX4_least 166 = .ok (.goto 4, 3) := by decide +kernel
theorem dX4_least_169 : decode cX4_least 169 = .ok (.iload_n 3, 1) := by decide +kernel
theorem dX4_least_170 : decode cX4_least 170 = .ok (.ireturn, 1) := by decide +kernel
set_option maxRecDepth 20000 in
theorem ggX4_reading_X4_isSet : GoodIn wsX4_reading wsX4_isSet := goodIn_r _ [8, 1, 9, 10, 11, 12, 13, 14, 15, 16, 17, 18] (by decide +kernel) (by decide +kernel)
set_option maxRecDepth 20000 in
theorem gX4_reading_X4_isSet : GoodIn wsX4_reading (wsV RX4 131 RX4 yX4_isSet wsX4_isSet) := goodIn_app (goodIn_of _ (by decide +kernel)) ggX4_reading_X4_isSet
theorem dX4_reading_0 : decode cX4_reading 0 = .ok (.aload_n 0, 1) := by decide +kernel
theorem dX4_reading_1 : decode cX4_reading 1 = .ok (.getfield 69, 3) := by decide +kernel
theorem dX4_reading_4 : decode cX4_reading 4 = .ok (.ifCond .ne 6, 3) := by decide +kernel
theorem dX4_reading_7 : decode cX4_reading 7 = .ok (.bipush (-3), 2) := by decide +kernel
theorem dX4_reading_9 : decode cX4_reading 9 = .ok (.ireturn, 1) := by decide +kernel
theorem dX4_reading_10 : decode cX4_reading 10 = .ok (.aload_n 0, 1) := by decide +kernel
theorem dX4_reading_11 : decode cX4_reading 11 = .ok (.iload_n 1, 1) := by decide +kernel
theorem dX4_reading_12 : decode cX4_reading 12 = .ok (.invokevirtual 131, 3) := by decide +kernel
theorem dX4_reading_15 : decode cX4_reading 15 = .ok (.ifCond .ne 6, 3) := by decide +kernel
theorem dX4_reading_18 : decode cX4_reading 18 = .ok (.bipush (-2), 2) := by decide +kernel
theorem dX4_reading_20 : decode cX4_reading 20 = .ok (.ireturn, 1) := by decide +kernel
theorem dX4_reading_21 : decode cX4_reading 21 = .ok (.aload_n 0, 1) := by decide +kernel
theorem dX4_reading_22 : decode cX4_reading 22 = .ok (.getfield 160, 3) := by decide +kernel
theorem dX4_reading_25 : decode cX4_reading 25 = .ok (.ifCond .lt 15, 3) := by decide +kernel
theorem dX4_reading_28 : decode cX4_reading 28 = .ok (.aload_n 0, 1) := by decide +kernel
theorem dX4_reading_29 : decode cX4_reading 29 = .ok (.getfield 160, 3) := by decide +kernel
theorem dX4_reading_32 : decode cX4_reading 32 = .ok (.aload_n 0, 1) := by decide +kernel
theorem dX4_reading_33 : decode cX4_reading 33 = .ok (.getfield 17, 3) := by decide +kernel
theorem dX4_reading_36 : decode cX4_reading 36 = .ok (.arraylength, 1) := by decide +kernel
theorem dX4_reading_37 : decode cX4_reading 37 = .ok (.if_icmp .lt 6, 3) := by decide +kernel
theorem dX4_reading_40 : decode cX4_reading 40 = .ok (.bipush (-4), 2) := by decide +kernel
theorem dX4_reading_42 : decode cX4_reading 42 = .ok (.ireturn, 1) := by decide +kernel
theorem dX4_reading_43 : decode cX4_reading 43 = .ok (.aload_n 0, 1) := by decide +kernel
theorem dX4_reading_44 : decode cX4_reading 44 = .ok (.getfield 17, 3) := by decide +kernel
theorem dX4_reading_47 : decode cX4_reading 47 = .ok (.aload_n 0, 1) := by decide +kernel
theorem dX4_reading_48 : decode cX4_reading 48 = .ok (.getfield 160, 3) := by decide +kernel
theorem dX4_reading_51 : decode cX4_reading 51 = .ok (.iload_n 1, 1) := by decide +kernel
theorem dX4_reading_52 : decode cX4_reading 52 = .ok (.iastore, 1) := by decide +kernel
theorem dX4_reading_53 : decode cX4_reading 53 = .ok (.aload_n 0, 1) := by decide +kernel
theorem dX4_reading_54 : decode cX4_reading 54 = .ok (.dup, 1) := by decide +kernel
theorem dX4_reading_55 : decode cX4_reading 55 = .ok (.getfield 160, 3) := by decide +kernel
theorem dX4_reading_58 : decode cX4_reading 58 = .ok (.iconst 1, 1) := by decide +kernel
theorem dX4_reading_59 : decode cX4_reading 59 = .ok (.iadd, 1) := by decide +kernel
theorem dX4_reading_60 : decode cX4_reading 60 = .ok (.putfield 160, 3) := by decide +kernel
theorem dX4_reading_63 : decode cX4_reading 63 = .ok (.aload_n 0, 1) := by decide +kernel
theorem dX4_reading_64 : decode cX4_reading 64 = .ok (.getfield 160, 3) := by decide +kernel
theorem dX4_reading_67 : decode cX4_reading 67 = .ok (.iconst 1, 1) := by decide +kernel
theorem dX4_reading_68 : decode cX4_reading 68 = .ok (.isub, 1) := by decide +kernel
theorem dX4_reading_69 : decode cX4_reading 69 = .ok (.ireturn, 1) := by decide +kernel
theorem dX4_back_0 : decode cX4_back 0 = .ok (.iload_n 1, 1) := by decide +kernel
theorem dX4_back_1 : decode cX4_back 1 = .ok (.ifCond .lt 11, 3) := by decide +kernel
theorem dX4_back_4 : decode cX4_back 4 = .ok (.iload_n 1, 1) := by decide +kernel
theorem dX4_back_5 : decode cX4_back 5 = .ok (.aload_n 0, 1) := by decide +kernel
theorem dX4_back_6 : decode cX4_back 6 = .ok (.getfield 160, 3) := by decide +kernel
theorem dX4_back_9 : decode cX4_back 9 = .ok (.if_icmp .le 6, 3) := by decide +kernel
theorem dX4_back_12 : decode cX4_back 12 = .ok (.bipush (-2), 2) := by decide +kernel
theorem dX4_back_14 : decode cX4_back 14 = .ok (.ireturn, 1) := by decide +kernel
theorem dX4_back_15 : decode cX4_back 15 = .ok (.aload_n 0, 1) := by decide +kernel
theorem dX4_back_16 : decode cX4_back 16 = .ok (.dup, 1) := by decide +kernel
theorem dX4_back_17 : decode cX4_back 17 = .ok (.getfield 160, 3) := by decide +kernel
theorem dX4_back_20 : decode cX4_back 20 = .ok (.iload_n 1, 1) := by decide +kernel
theorem dX4_back_21 : decode cX4_back 21 = .ok (.isub, 1) := by decide +kernel
theorem dX4_back_22 : decode cX4_back 22 = .ok (.putfield 160, 3) := by decide +kernel
theorem dX4_back_25 : decode cX4_back 25 = .ok (.aload_n 0, 1) := by decide +kernel
theorem dX4_back_26 : decode cX4_back 26 = .ok (.getfield 160, 3) := by decide +kernel
theorem dX4_back_29 : decode cX4_back 29 = .ok (.ireturn, 1) := by decide +kernel
set_option maxRecDepth 20000 in
theorem ggX4_tickets_X4_citizen : GoodIn wsX4_tickets wsX4_citizen := goodIn_r _ [6, 7, 8, 81, 82, 83, 84, 85, 86, 87, 88, 89, 90] (by decide +kernel) (by decide +kernel)
set_option maxRecDepth 20000 in
theorem gX4_tickets_X4_citizen : GoodIn wsX4_tickets (wsV RX4 72 RX4 yX4_citizen wsX4_citizen) := goodIn_app (goodIn_of _ (by decide +kernel)) ggX4_tickets_X4_citizen
set_option maxRecDepth 20000 in
theorem ggX4_tickets_X4_fillDrum : GoodIn wsX4_tickets wsX4_fillDrum := goodIn_r _ [12, 1, 7, 13, 14, 15, 16, 17, 18, 19, 20, 21, 22, 23, 24, 25, 26, 27, 28, 29, 30, 31, 32, 33, 2, 3, 4, 5, 6, 8, 34, 35, 36, 37, 38, 39, 40, 41, 42, 43, 44, 45, 46, 47, 48, 49, 50, 51, 81, 82, 83, 84, 85, 86, 87, 88, 89, 90, 91, 92, 93, 94, 95, 96, 97, 98, 99, 100, 101] (by decide +kernel) (by decide +kernel)
set_option maxRecDepth 20000 in
theorem gX4_tickets_X4_fillDrum : GoodIn wsX4_tickets (wsV RX4 108 RX4 yX4_fillDrum wsX4_fillDrum) := goodIn_app (goodIn_of _ (by decide +kernel)) ggX4_tickets_X4_fillDrum
set_option maxRecDepth 20000 in
theorem ggX4_tickets_X4_slipsOf : GoodIn wsX4_tickets wsX4_slipsOf := goodIn_r _ [41] (by decide +kernel) (by decide +kernel)
set_option maxRecDepth 20000 in
theorem gX4_tickets_X4_slipsOf : GoodIn wsX4_tickets (va_wsS RX4 144 yX4_slipsOf wsX4_slipsOf) := goodIn_app (goodIn_of _ (by decide +kernel)) ggX4_tickets_X4_slipsOf
set_option maxRecDepth 20000 in
theorem ggX4_tickets_X1_setSlips : GoodIn wsX4_tickets wsX1_setSlips := goodIn_r _ [44, 28, 27, 45, 46, 47, 15, 48, 95, 96, 97, 98, 99, 100, 101] (by decide +kernel) (by decide +kernel)
set_option maxRecDepth 20000 in
theorem gX4_tickets_X1_setSlips_n140 : GoodIn wsX4_tickets (wsX1_setSlips) := ggX4_tickets_X1_setSlips
set_option maxRecDepth 20000 in
theorem ggX4_tickets_X4_allReadingsCanBe : GoodIn wsX4_tickets wsX4_allReadingsCanBe := goodIn_r _ [56, 57, 58, 1, 59, 15, 60, 61, 25, 62, 63, 64, 65, 66, 67, 68, 69, 28, 70, 71, 72, 73, 74, 75, 76, 77, 78, 79, 80, 33, 27, 18, 19, 20, 21, 81, 82, 83, 84, 85, 86, 87, 88, 89, 90, 95, 96, 97, 98, 99, 100, 101] (by decide +kernel) (by decide +kernel)
set_option maxRecDepth 20000 in
theorem gX4_tickets_X4_allReadingsCanBe : GoodIn wsX4_tickets (wsV RX4 163 RX4 yX4_allReadingsCanBe wsX4_allReadingsCanBe) := goodIn_app (goodIn_of _ (by decide +kernel)) ggX4_tickets_X4_allReadingsCanBe
theorem dX4_tickets_0 : decode cX4_tickets 0 = .ok (.aload_n 0, 1) := by decide +kernel
theorem dX4_tickets_1 : decode cX4_tickets 1 = .ok (.iload_n 1, 1) := by decide +kernel
theorem dX4_tickets_2 : decode cX4_tickets 2 = .ok (.invokevirtual 72, 3) := by decide +kernel
theorem dX4_tickets_5 : decode cX4_tickets 5 = .ok (.astore_n 2, 1) := by decide +kernel
theorem dX4_tickets_6 : decode cX4_tickets 6 = .ok (.aload_n 2, 1) := by decide +kernel
theorem dX4_tickets_7 : decode cX4_tickets 7 = .ok (.ifnonnull 5, 3) := by decide +kernel
theorem dX4_tickets_10 : decode cX4_tickets 10 = .ok (.iconst (-1), 1) := by decide +kernel
theorem dX4_tickets_11 : decode cX4_tickets 11 = .ok (.ireturn, 1) := by decide +kernel
theorem dX4_tickets_12 : decode cX4_tickets 12 = .ok (.aload_n 0, 1) := by decide +kernel
theorem dX4_tickets_13 : decode cX4_tickets 13 = .ok (.invokevirtual 108, 3) := by decide +kernel
theorem dX4_tickets_16 : decode cX4_tickets 16 = .ok (.iconst 0, 1) := by decide +kernel
theorem dX4_tickets_17 : decode cX4_tickets 17 = .ok (.istore_n 3, 1) := by decide +kernel
theorem dX4_tickets_18 : decode cX4_tickets 18 = .ok (.iconst 1, 1) := by decide +kernel
theorem dX4_tickets_19 : decode cX4_tickets 19 = .ok (.istore 4, 2) := by decide +kernel
theorem dX4_tickets_21 : decode cX4_tickets 21 = .ok (.iload 4, 2) := by decide +kernel
theorem dX4_tickets_23 : decode cX4_tickets 23 = .ok (.bipush 9, 2) := by decide +kernel
theorem dX4_tickets_25 : decode cX4_tickets 25 = .ok (.if_icmp .gt 40, 3) := by decide +kernel
theorem dX4_tickets_28 : decode cX4_tickets 28 = .ok (.aload_n 0, 1) := by decide +kernel
theorem dX4_tickets_29 : decode cX4_tickets 29 = .ok (.getfield 30, 3) := by decide +kernel
theorem dX4_tickets_32 : decode cX4_tickets 32 = .ok (.iload_n 1, 1) := by decide +kernel
theorem dX4_tickets_33 : decode cX4_tickets 33 = .ok (.aload_n 2, 1) := by decide +kernel
theorem dX4_tickets_34 : decode cX4_tickets 34 = .ok (.getfield 76, 3) := by decide +kernel
theorem dX4_tickets_37 : decode cX4_tickets 37 = .ok (.iload 4, 2) := by decide +kernel
theorem dX4_tickets_39 : decode cX4_tickets 39 = .ok (.invokestatic 144, 3) := by decide +kernel
theorem dX4_tickets_42 : decode cX4_tickets 42 = .ok (.invokevirtual 140, 3) := by decide +kernel
theorem dX4_tickets_45 : decode cX4_tickets 45 = .ok (.aload_n 0, 1) := by decide +kernel
theorem dX4_tickets_46 : decode cX4_tickets 46 = .ok (.invokevirtual 163, 3) := by decide +kernel
theorem dX4_tickets_49 : decode cX4_tickets 49 = .ok (.ifCond .eq 10, 3) := by decide +kernel
theorem dX4_tickets_52 : decode cX4_tickets 52 = .ok (.iload_n 3, 1) := by decide +kernel
theorem dX4_tickets_53 : decode cX4_tickets 53 = .ok (.iconst 1, 1) := by decide +kernel
theorem dX4_tickets_54 : decode cX4_tickets 54 = .ok (.iload 4, 2) := by decide +kernel
theorem dX4_tickets_56 : decode cX4_tickets 56 = .ok (.ishl, 1) := by decide +kernel
theorem dX4_tickets_57 : decode cX4_tickets 57 = .ok (.ior, 1) := by decide +kernel
theorem dX4_tickets_58 : decode cX4_tickets 58 = .ok (.istore_n 3, 1) := by decide +kernel
theorem dX4_tickets_59 : decode cX4_tickets 59 = .ok (.iinc 4 1, 3) := by decide +kernel
theorem dX4_tickets_62 : decode cX4_tickets 62 = .ok (.goto (-41), 3) := by decide +kernel
theorem dX4_tickets_65 : decode cX4_tickets 65 = .ok (.iload_n 3, 1) := by decide +kernel
theorem dX4_tickets_66 : decode cX4_tickets 66 = .ok (.ireturn, 1) := by decide +kernel
set_option maxRecDepth 20000 in
theorem ggX4_kinds_X4_citizen : GoodIn wsX4_kinds wsX4_citizen := goodIn_r _ [6, 7, 8, 81, 82, 83, 84, 85, 86, 87, 88, 89, 90] (by decide +kernel) (by decide +kernel)
set_option maxRecDepth 20000 in
theorem gX4_kinds_X4_citizen : GoodIn wsX4_kinds (wsV RX4 72 RX4 yX4_citizen wsX4_citizen) := goodIn_app (goodIn_of _ (by decide +kernel)) ggX4_kinds_X4_citizen
set_option maxRecDepth 20000 in
theorem ggX4_kinds_X4_fillDrum : GoodIn wsX4_kinds wsX4_fillDrum := goodIn_r _ [12, 1, 7, 13, 14, 15, 16, 17, 18, 19, 20, 21, 22, 23, 24, 25, 26, 27, 28, 29, 30, 31, 32, 33, 2, 3, 4, 5, 6, 8, 34, 35, 36, 37, 38, 39, 40, 41, 42, 43, 44, 45, 46, 47, 48, 49, 50, 51, 81, 82, 83, 84, 85, 86, 87, 88, 89, 90, 91, 92, 93, 94, 95, 96, 97, 98, 99, 100, 101] (by decide +kernel) (by decide +kernel)
set_option maxRecDepth 20000 in
theorem gX4_kinds_X4_fillDrum : GoodIn wsX4_kinds (wsV RX4 108 RX4 yX4_fillDrum wsX4_fillDrum) := goodIn_app (goodIn_of _ (by decide +kernel)) ggX4_kinds_X4_fillDrum
set_option maxRecDepth 20000 in
theorem ggX4_kinds_X4_slipsOf : GoodIn wsX4_kinds wsX4_slipsOf := goodIn_r _ [41] (by decide +kernel) (by decide +kernel)
set_option maxRecDepth 20000 in
theorem gX4_kinds_X4_slipsOf : GoodIn wsX4_kinds (va_wsS RX4 144 yX4_slipsOf wsX4_slipsOf) := goodIn_app (goodIn_of _ (by decide +kernel)) ggX4_kinds_X4_slipsOf
set_option maxRecDepth 20000 in
theorem ggX4_kinds_X1_setSlips : GoodIn wsX4_kinds wsX1_setSlips := goodIn_r _ [44, 28, 27, 45, 46, 47, 15, 48, 95, 96, 97, 98, 99, 100, 101] (by decide +kernel) (by decide +kernel)
set_option maxRecDepth 20000 in
theorem gX4_kinds_X1_setSlips_n140 : GoodIn wsX4_kinds (wsX1_setSlips) := ggX4_kinds_X1_setSlips
set_option maxRecDepth 20000 in
theorem ggX4_kinds_X4_allReadingsCanBe : GoodIn wsX4_kinds wsX4_allReadingsCanBe := goodIn_r _ [56, 57, 58, 1, 59, 15, 60, 61, 25, 62, 63, 64, 65, 66, 67, 68, 69, 28, 70, 71, 72, 73, 74, 75, 76, 77, 78, 79, 80, 33, 27, 18, 19, 20, 21, 81, 82, 83, 84, 85, 86, 87, 88, 89, 90, 95, 96, 97, 98, 99, 100, 101] (by decide +kernel) (by decide +kernel)
set_option maxRecDepth 20000 in
theorem gX4_kinds_X4_allReadingsCanBe : GoodIn wsX4_kinds (wsV RX4 163 RX4 yX4_allReadingsCanBe wsX4_allReadingsCanBe) := goodIn_app (goodIn_of _ (by decide +kernel)) ggX4_kinds_X4_allReadingsCanBe
theorem dX4_kinds_0 : decode cX4_kinds 0 = .ok (.aload_n 0, 1) := by decide +kernel
theorem dX4_kinds_1 : decode cX4_kinds 1 = .ok (.iload_n 1, 1) := by decide +kernel
theorem dX4_kinds_2 : decode cX4_kinds 2 = .ok (.invokevirtual 72, 3) := by decide +kernel
theorem dX4_kinds_5 : decode cX4_kinds 5 = .ok (.astore_n 2, 1) := by decide +kernel
theorem dX4_kinds_6 : decode cX4_kinds 6 = .ok (.aload_n 2, 1) := by decide +kernel
theorem dX4_kinds_7 : decode cX4_kinds 7 = .ok (.ifnonnull 5, 3) := by decide +kernel
theorem dX4_kinds_10 : decode cX4_kinds 10 = .ok (.iconst (-1), 1) := by decide +kernel
theorem dX4_kinds_11 : decode cX4_kinds 11 = .ok (.ireturn, 1) := by decide +kernel
theorem dX4_kinds_12 : decode cX4_kinds 12 = .ok (.aload_n 0, 1) := by decide +kernel
theorem dX4_kinds_13 : decode cX4_kinds 13 = .ok (.invokevirtual 108, 3) := by decide +kernel
theorem dX4_kinds_16 : decode cX4_kinds 16 = .ok (.iconst 0, 1) := by decide +kernel
theorem dX4_kinds_17 : decode cX4_kinds 17 = .ok (.istore_n 3, 1) := by decide +kernel
theorem dX4_kinds_18 : decode cX4_kinds 18 = .ok (.iconst 0, 1) := by decide +kernel
theorem dX4_kinds_19 : decode cX4_kinds 19 = .ok (.istore 4, 2) := by decide +kernel
theorem dX4_kinds_21 : decode cX4_kinds 21 = .ok (.iload 4, 2) := by decide +kernel
theorem dX4_kinds_23 : decode cX4_kinds 23 = .ok (.iconst 2, 1) := by decide +kernel
theorem dX4_kinds_24 : decode cX4_kinds 24 = .ok (.if_icmp .gt 40, 3) := by decide +kernel
theorem dX4_kinds_27 : decode cX4_kinds 27 = .ok (.aload_n 0, 1) := by decide +kernel
theorem dX4_kinds_28 : decode cX4_kinds 28 = .ok (.getfield 30, 3) := by decide +kernel
theorem dX4_kinds_31 : decode cX4_kinds 31 = .ok (.iload_n 1, 1) := by decide +kernel
theorem dX4_kinds_32 : decode cX4_kinds 32 = .ok (.iload 4, 2) := by decide +kernel
theorem dX4_kinds_34 : decode cX4_kinds 34 = .ok (.aload_n 2, 1) := by decide +kernel
theorem dX4_kinds_35 : decode cX4_kinds 35 = .ok (.getfield 79, 3) := by decide +kernel
theorem dX4_kinds_38 : decode cX4_kinds 38 = .ok (.invokestatic 144, 3) := by decide +kernel
theorem dX4_kinds_41 : decode cX4_kinds 41 = .ok (.invokevirtual 140, 3) := by decide +kernel
theorem dX4_kinds_44 : decode cX4_kinds 44 = .ok (.aload_n 0, 1) := by decide +kernel
theorem dX4_kinds_45 : decode cX4_kinds 45 = .ok (.invokevirtual 163, 3) := by decide +kernel
theorem dX4_kinds_48 : decode cX4_kinds 48 = .ok (.ifCond .eq 10, 3) := by decide +kernel
theorem dX4_kinds_51 : decode cX4_kinds 51 = .ok (.iload_n 3, 1) := by decide +kernel
theorem dX4_kinds_52 : decode cX4_kinds 52 = .ok (.iconst 1, 1) := by decide +kernel
theorem dX4_kinds_53 : decode cX4_kinds 53 = .ok (.iload 4, 2) := by decide +kernel
theorem dX4_kinds_55 : decode cX4_kinds 55 = .ok (.ishl, 1) := by decide +kernel
theorem dX4_kinds_56 : decode cX4_kinds 56 = .ok (.ior, 1) := by decide +kernel
theorem dX4_kinds_57 : decode cX4_kinds 57 = .ok (.istore_n 3, 1) := by decide +kernel
theorem dX4_kinds_58 : decode cX4_kinds 58 = .ok (.iinc 4 1, 3) := by decide +kernel
theorem dX4_kinds_61 : decode cX4_kinds 61 = .ok (.goto (-40), 3) := by decide +kernel
theorem dX4_kinds_64 : decode cX4_kinds 64 = .ok (.iload_n 3, 1) := by decide +kernel
theorem dX4_kinds_65 : decode cX4_kinds 65 = .ok (.ireturn, 1) := by decide +kernel
set_option maxRecDepth 20000 in
theorem ggX4_counts_X4_fillDrum : GoodIn wsX4_counts wsX4_fillDrum := goodIn_r _ [7, 2, 1, 8, 9, 10, 11, 12, 13, 14, 15, 16, 17, 18, 19, 20, 21, 22, 23, 24, 25, 26, 27, 28, 29, 30, 31, 6, 32, 33, 34, 35, 36, 37, 38, 39, 40, 41, 42, 43, 44, 45, 46, 47, 48, 49, 50, 51, 80, 81, 82, 83, 84, 85, 86, 87, 88, 89, 90, 91, 92, 93, 94, 95, 96, 97, 98, 99, 100] (by decide +kernel) (by decide +kernel)
set_option maxRecDepth 20000 in
theorem gX4_counts_X4_fillDrum : GoodIn wsX4_counts (wsV RX4 108 RX4 yX4_fillDrum wsX4_fillDrum) := goodIn_app (goodIn_of _ (by decide +kernel)) ggX4_counts_X4_fillDrum
set_option maxRecDepth 20000 in
theorem ggX4_counts_X1_setDrawn : GoodIn wsX4_counts wsX1_setDrawn := goodIn_r _ [27, 13, 14, 15, 16, 17, 18, 19, 28, 94, 95, 96, 97, 98, 99, 100] (by decide +kernel) (by decide +kernel)
set_option maxRecDepth 20000 in
theorem gX4_counts_X1_setDrawn_n166 : GoodIn wsX4_counts (wsX1_setDrawn) := ggX4_counts_X1_setDrawn
set_option maxRecDepth 20000 in
theorem ggX4_counts_X4_allReadingsCanBe : GoodIn wsX4_counts wsX4_allReadingsCanBe := goodIn_r _ [55, 56, 57, 2, 58, 10, 59, 60, 20, 61, 62, 63, 64, 65, 66, 67, 68, 23, 69, 70, 71, 72, 73, 74, 75, 76, 77, 78, 79, 28, 22, 13, 14, 15, 16, 80, 81, 82, 83, 84, 85, 86, 87, 88, 89, 94, 95, 96, 97, 98, 99, 100] (by decide +kernel) (by decide +kernel)
set_option maxRecDepth 20000 in
theorem gX4_counts_X4_allReadingsCanBe : GoodIn wsX4_counts (wsV RX4 163 RX4 yX4_allReadingsCanBe wsX4_allReadingsCanBe) := goodIn_app (goodIn_of _ (by decide +kernel)) ggX4_counts_X4_allReadingsCanBe
theorem dX4_counts_0 : decode cX4_counts 0 = .ok (.aload_n 0, 1) := by decide +kernel
theorem dX4_counts_1 : decode cX4_counts 1 = .ok (.getfield 69, 3) := by decide +kernel
theorem dX4_counts_4 : decode cX4_counts 4 = .ok (.ifCond .ne 6, 3) := by decide +kernel
theorem dX4_counts_7 : decode cX4_counts 7 = .ok (.bipush (-3), 2) := by decide +kernel
theorem dX4_counts_9 : decode cX4_counts 9 = .ok (.ireturn, 1) := by decide +kernel
theorem dX4_counts_10 : decode cX4_counts 10 = .ok (.aload_n 0, 1) := by decide +kernel
theorem dX4_counts_11 : decode cX4_counts 11 = .ok (.invokevirtual 108, 3) := by decide +kernel
theorem dX4_counts_14 : decode cX4_counts 14 = .ok (.iconst 0, 1) := by decide +kernel
theorem dX4_counts_15 : decode cX4_counts 15 = .ok (.istore_n 1, 1) := by decide +kernel
theorem dX4_counts_16 : decode cX4_counts 16 = .ok (.iconst 0, 1) := by decide +kernel
theorem dX4_counts_17 : decode cX4_counts 17 = .ok (.istore_n 2, 1) := by decide +kernel
theorem dX4_counts_18 : decode cX4_counts 18 = .ok (.iload_n 2, 1) := by decide +kernel
theorem dX4_counts_19 : decode cX4_counts 19 = .ok (.bipush 6, 2) := by decide +kernel
theorem dX4_counts_21 : decode cX4_counts 21 = .ok (.if_icmp .gt 30, 3) := by decide +kernel
theorem dX4_counts_24 : decode cX4_counts 24 = .ok (.aload_n 0, 1) := by decide +kernel
theorem dX4_counts_25 : decode cX4_counts 25 = .ok (.getfield 30, 3) := by decide +kernel
theorem dX4_counts_28 : decode cX4_counts 28 = .ok (.iload_n 2, 1) := by decide +kernel
theorem dX4_counts_29 : decode cX4_counts 29 = .ok (.invokevirtual 166, 3) := by decide +kernel
theorem dX4_counts_32 : decode cX4_counts 32 = .ok (.aload_n 0, 1) := by decide +kernel
theorem dX4_counts_33 : decode cX4_counts 33 = .ok (.invokevirtual 163, 3) := by decide +kernel
theorem dX4_counts_36 : decode cX4_counts 36 = .ok (.ifCond .eq 9, 3) := by decide +kernel
theorem dX4_counts_39 : decode cX4_counts 39 = .ok (.iload_n 1, 1) := by decide +kernel
theorem dX4_counts_40 : decode cX4_counts 40 = .ok (.iconst 1, 1) := by decide +kernel
theorem dX4_counts_41 : decode cX4_counts 41 = .ok (.iload_n 2, 1) := by decide +kernel
theorem dX4_counts_42 : decode cX4_counts 42 = .ok (.ishl, 1) := by decide +kernel
theorem dX4_counts_43 : decode cX4_counts 43 = .ok (.ior, 1) := by decide +kernel
theorem dX4_counts_44 : decode cX4_counts 44 = .ok (.istore_n 1, 1) := by decide +kernel
theorem dX4_counts_45 : decode cX4_counts 45 = .ok (.iinc 2 1, 3) := by decide +kernel
theorem dX4_counts_48 : decode cX4_counts 48 = .ok (.goto (-30), 3) := by decide +kernel
theorem dX4_counts_51 : decode cX4_counts 51 = .ok (.iload_n 1, 1) := by decide +kernel
theorem dX4_counts_52 : decode cX4_counts 52 = .ok (.ireturn, 1) := by decide +kernel
set_option maxRecDepth 20000 in
theorem ggX4_sheet_X4_placeOf : GoodIn wsX4_sheet wsX4_placeOf := goodIn_r _ [6, 7, 8, 9, 5, 10, 33, 34, 35, 36, 37, 38, 39, 40, 41, 42] (by decide +kernel) (by decide +kernel)
set_option maxRecDepth 20000 in
theorem gX4_sheet_X4_placeOf : GoodIn wsX4_sheet (wsV RX4 170 RX4 yX4_placeOf wsX4_placeOf) := goodIn_app (goodIn_of _ (by decide +kernel)) ggX4_sheet_X4_placeOf
set_option maxRecDepth 20000 in
theorem ggX4_sheet_X4_isLane : GoodIn wsX4_sheet wsX4_isLane := goodIn_r _ [13] (by decide +kernel) (by decide +kernel)
set_option maxRecDepth 20000 in
theorem gX4_sheet_X4_isLane : GoodIn wsX4_sheet (va_wsS RX4 44 yX4_isLane wsX4_isLane) := goodIn_app (goodIn_of _ (by decide +kernel)) ggX4_sheet_X4_isLane
set_option maxRecDepth 20000 in
theorem ggX4_sheet_X4_faulted : GoodIn wsX4_sheet wsX4_faulted := goodIn_r _ [17, 1, 33, 34, 35, 36, 37, 38, 39, 40, 41, 42] (by decide +kernel) (by decide +kernel)
set_option maxRecDepth 20000 in
theorem gX4_sheet_X4_faulted : GoodIn wsX4_sheet (wsV RX4 55 RX4 yX4_faulted wsX4_faulted) := goodIn_app (goodIn_of _ (by decide +kernel)) ggX4_sheet_X4_faulted
set_option maxRecDepth 20000 in
theorem ggX4_sheet_X2_begin : GoodIn wsX4_sheet wsX2_begin := goodIn_r _ [21, 22, 23, 24, 25, 26, 27, 28, 29, 30, 31, 32, 43, 44, 45, 46] (by decide +kernel) (by decide +kernel)
set_option maxRecDepth 20000 in
theorem gX4_sheet_X2_begin_n173 : GoodIn wsX4_sheet (wsX2_begin) := ggX4_sheet_X2_begin
theorem dX4_sheet_0 : decode cX4_sheet 0 = .ok (.aload_n 0, 1) := by decide +kernel
theorem dX4_sheet_1 : decode cX4_sheet 1 = .ok (.iconst 0, 1) := by decide +kernel
theorem dX4_sheet_2 : decode cX4_sheet 2 = .ok (.putfield 36, 3) := by decide +kernel
theorem dX4_sheet_5 : decode cX4_sheet 5 = .ok (.aload_n 0, 1) := by decide +kernel
theorem dX4_sheet_6 : decode cX4_sheet 6 = .ok (.iload_n 1, 1) := by decide +kernel
theorem dX4_sheet_7 : decode cX4_sheet 7 = .ok (.invokevirtual 170, 3) := by decide +kernel
theorem dX4_sheet_10 : decode cX4_sheet 10 = .ok (.astore 4, 2) := by decide +kernel
theorem dX4_sheet_12 : decode cX4_sheet 12 = .ok (.aload 4, 2) := by decide +kernel
theorem dX4_sheet_14 : decode cX4_sheet 14 = .ok (.ifnonnull 5, 3) := by decide +kernel
theorem dX4_sheet_17 : decode cX4_sheet 17 = .ok (.iconst (-1), 1) := by decide +kernel
theorem dX4_sheet_18 : decode cX4_sheet 18 = .ok (.ireturn, 1) := by decide +kernel
theorem dX4_sheet_19 : decode cX4_sheet 19 = .ok (.iload_n 2, 1) := by decide +kernel
theorem dX4_sheet_20 : decode cX4_sheet 20 = .ok (.invokestatic 44, 3) := by decide +kernel
theorem dX4_sheet_23 : decode cX4_sheet 23 = .ok (.ifCond .eq 9, 3) := by decide +kernel
theorem dX4_sheet_26 : decode cX4_sheet 26 = .ok (.iload_n 3, 1) := by decide +kernel
theorem dX4_sheet_27 : decode cX4_sheet 27 = .ok (.bipush 60, 2) := by decide +kernel
theorem dX4_sheet_29 : decode cX4_sheet 29 = .ok (.if_icmp .le 6, 3) := by decide +kernel
theorem dX4_sheet_32 : decode cX4_sheet 32 = .ok (.bipush (-2), 2) := by decide +kernel
theorem dX4_sheet_34 : decode cX4_sheet 34 = .ok (.ireturn, 1) := by decide +kernel
theorem dX4_sheet_35 : decode cX4_sheet 35 = .ok (.iload_n 3, 1) := by decide +kernel
theorem dX4_sheet_36 : decode cX4_sheet 36 = .ok (.ifCond .ge 9, 3) := by decide +kernel
theorem dX4_sheet_39 : decode cX4_sheet 39 = .ok (.aload_n 0, 1) := by decide +kernel
theorem dX4_sheet_40 : decode cX4_sheet 40 = .ok (.iconst 4, 1) := by decide +kernel
theorem dX4_sheet_41 : decode cX4_sheet 41 = .ok (.invokevirtual 55, 3) := by decide +kernel
theorem dX4_sheet_44 : decode cX4_sheet 44 = .ok (.ireturn, 1) := by decide +kernel
theorem dX4_sheet_45 : decode cX4_sheet 45 = .ok (.aload 4, 2) := by decide +kernel
theorem dX4_sheet_47 : decode cX4_sheet 47 = .ok (.iload_n 2, 1) := by decide +kernel
theorem dX4_sheet_48 : decode cX4_sheet 48 = .ok (.iload_n 3, 1) := by decide +kernel
theorem dX4_sheet_49 : decode cX4_sheet 49 = .ok (.invokevirtual 173, 3) := by decide +kernel
theorem dX4_sheet_52 : decode cX4_sheet 52 = .ok (.iconst 1, 1) := by decide +kernel
theorem dX4_sheet_53 : decode cX4_sheet 53 = .ok (.ireturn, 1) := by decide +kernel
set_option maxRecDepth 20000 in
theorem ggX4_lose_X4_isSheet : GoodIn wsX4_lose wsX4_isSheet := goodIn_r _ [4] (by decide +kernel) (by decide +kernel)
set_option maxRecDepth 20000 in
theorem gX4_lose_X4_isSheet : GoodIn wsX4_lose (va_wsS RX4 40 yX4_isSheet wsX4_isSheet) := goodIn_app (goodIn_of _ (by decide +kernel)) ggX4_lose_X4_isSheet
set_option maxRecDepth 20000 in
theorem ggX4_lose_X4_rowOf : GoodIn wsX4_lose wsX4_rowOf := goodIn_r _ [8, 9, 10, 11, 3, 12, 13, 1, 2, 4, 19, 20, 21, 22, 23, 24, 25, 26, 27, 28, 29, 30, 31, 32] (by decide +kernel) (by decide +kernel)
set_option maxRecDepth 20000 in
theorem gX4_lose_X4_rowOf : GoodIn wsX4_lose (wsV RX4 47 RX4 yX4_rowOf wsX4_rowOf) := goodIn_app (goodIn_of _ (by decide +kernel)) ggX4_lose_X4_rowOf
set_option maxRecDepth 20000 in
theorem ggX4_lose_X2_end : GoodIn wsX4_lose wsX2_end := goodIn_r _ [17, 18, 19, 20, 21, 22] (by decide +kernel) (by decide +kernel)
set_option maxRecDepth 20000 in
theorem gX4_lose_X2_end_n176 : GoodIn wsX4_lose (wsX2_end) := ggX4_lose_X2_end
theorem dX4_lose_0 : decode cX4_lose 0 = .ok (.iload_n 1, 1) := by decide +kernel
theorem dX4_lose_1 : decode cX4_lose 1 = .ok (.invokestatic 40, 3) := by decide +kernel
theorem dX4_lose_4 : decode cX4_lose 4 = .ok (.ifCond .ne 5, 3) := by decide +kernel
theorem dX4_lose_7 : decode cX4_lose 7 = .ok (.iconst (-1), 1) := by decide +kernel
theorem dX4_lose_8 : decode cX4_lose 8 = .ok (.ireturn, 1) := by decide +kernel
theorem dX4_lose_9 : decode cX4_lose 9 = .ok (.aload_n 0, 1) := by decide +kernel
theorem dX4_lose_10 : decode cX4_lose 10 = .ok (.iload_n 1, 1) := by decide +kernel
theorem dX4_lose_11 : decode cX4_lose 11 = .ok (.invokevirtual 47, 3) := by decide +kernel
theorem dX4_lose_14 : decode cX4_lose 14 = .ok (.astore_n 2, 1) := by decide +kernel
theorem dX4_lose_15 : decode cX4_lose 15 = .ok (.aload_n 2, 1) := by decide +kernel
theorem dX4_lose_16 : decode cX4_lose 16 = .ok (.ifnonnull 5, 3) := by decide +kernel
theorem dX4_lose_19 : decode cX4_lose 19 = .ok (.iconst 0, 1) := by decide +kernel
theorem dX4_lose_20 : decode cX4_lose 20 = .ok (.ireturn, 1) := by decide +kernel
theorem dX4_lose_21 : decode cX4_lose 21 = .ok (.aload_n 2, 1) := by decide +kernel
theorem dX4_lose_22 : decode cX4_lose 22 = .ok (.invokevirtual 176, 3) := by decide +kernel
theorem dX4_lose_25 : decode cX4_lose 25 = .ok (.iconst 1, 1) := by decide +kernel
theorem dX4_lose_26 : decode cX4_lose 26 = .ok (.ireturn, 1) := by decide +kernel
set_option maxRecDepth 20000 in
theorem ggX4_put_X4_isSheet : GoodIn wsX4_put wsX4_isSheet := goodIn_r _ [5] (by decide +kernel) (by decide +kernel)
set_option maxRecDepth 20000 in
theorem gX4_put_X4_isSheet : GoodIn wsX4_put (va_wsS RX4 40 yX4_isSheet wsX4_isSheet) := goodIn_app (goodIn_of _ (by decide +kernel)) ggX4_put_X4_isSheet
set_option maxRecDepth 20000 in
theorem ggX4_put_X4_rowOf : GoodIn wsX4_put wsX4_rowOf := goodIn_r _ [9, 10, 11, 12, 4, 13, 14, 2, 3, 5, 43, 44, 45, 46, 33, 34, 35, 36, 37, 38, 39, 40, 41, 42] (by decide +kernel) (by decide +kernel)
set_option maxRecDepth 20000 in
theorem gX4_put_X4_rowOf : GoodIn wsX4_put (wsV RX4 47 RX4 yX4_rowOf wsX4_rowOf) := goodIn_app (goodIn_of _ (by decide +kernel)) ggX4_put_X4_rowOf
set_option maxRecDepth 20000 in
theorem ggX4_put_X4_faulted : GoodIn wsX4_put wsX4_faulted := goodIn_r _ [18, 1, 33, 34, 35, 36, 37, 38, 39, 40, 41, 42] (by decide +kernel) (by decide +kernel)
set_option maxRecDepth 20000 in
theorem gX4_put_X4_faulted : GoodIn wsX4_put (wsV RX4 55 RX4 yX4_faulted wsX4_faulted) := goodIn_app (goodIn_of _ (by decide +kernel)) ggX4_put_X4_faulted
set_option maxRecDepth 20000 in
theorem ggX4_put_X2_holds : GoodIn wsX4_put wsX2_holds := goodIn_r _ [22, 23, 43, 44, 45, 46] (by decide +kernel) (by decide +kernel)
set_option maxRecDepth 20000 in
theorem gX4_put_X2_holds_n179 : GoodIn wsX4_put (wsX2_holds) := ggX4_put_X2_holds
set_option maxRecDepth 20000 in
theorem ggX4_put_X2_set : GoodIn wsX4_put wsX2_set := goodIn_r _ [26, 27, 28, 29, 30, 20, 31, 32, 43, 44, 45, 46] (by decide +kernel) (by decide +kernel)
set_option maxRecDepth 20000 in
theorem gX4_put_X2_set_n183 : GoodIn wsX4_put (wsX2_set) := ggX4_put_X2_set
theorem dX4_put_0 : decode cX4_put 0 = .ok (.aload_n 0, 1) := by decide +kernel
theorem dX4_put_1 : decode cX4_put 1 = .ok (.iconst 0, 1) := by decide +kernel
theorem dX4_put_2 : decode cX4_put 2 = .ok (.putfield 36, 3) := by decide +kernel
theorem dX4_put_5 : decode cX4_put 5 = .ok (.iload_n 1, 1) := by decide +kernel
theorem dX4_put_6 : decode cX4_put 6 = .ok (.invokestatic 40, 3) := by decide +kernel
theorem dX4_put_9 : decode cX4_put 9 = .ok (.ifCond .ne 5, 3) := by decide +kernel
theorem dX4_put_12 : decode cX4_put 12 = .ok (.iconst (-1), 1) := by decide +kernel
theorem dX4_put_13 : decode cX4_put 13 = .ok (.ireturn, 1) := by decide +kernel
theorem dX4_put_14 : decode cX4_put 14 = .ok (.aload_n 0, 1) := by decide +kernel
theorem dX4_put_15 : decode cX4_put 15 = .ok (.iload_n 1, 1) := by decide +kernel
theorem dX4_put_16 : decode cX4_put 16 = .ok (.invokevirtual 47, 3) := by decide +kernel
theorem dX4_put_19 : decode cX4_put 19 = .ok (.astore 4, 2) := by decide +kernel
theorem dX4_put_21 : decode cX4_put 21 = .ok (.aload 4, 2) := by decide +kernel
theorem dX4_put_23 : decode cX4_put 23 = .ok (.ifnonnull 9, 3) := by decide +kernel
theorem dX4_put_26 : decode cX4_put 26 = .ok (.aload_n 0, 1) := by decide +kernel
theorem dX4_put_27 : decode cX4_put 27 = .ok (.iconst 1, 1) := by decide +kernel
theorem dX4_put_28 : decode cX4_put 28 = .ok (.invokevirtual 55, 3) := by decide +kernel
theorem dX4_put_31 : decode cX4_put 31 = .ok (.ireturn, 1) := by decide +kernel
theorem dX4_put_32 : decode cX4_put 32 = .ok (.aload 4, 2) := by decide +kernel
theorem dX4_put_34 : decode cX4_put 34 = .ok (.iload_n 2, 1) := by decide +kernel
theorem dX4_put_35 : decode cX4_put 35 = .ok (.iconst 1, 1) := by decide +kernel
theorem dX4_put_36 : decode cX4_put 36 = .ok (.invokevirtual 179, 3) := by decide +kernel
theorem dX4_put_39 : decode cX4_put 39 = .ok (.ifCond .ne 9, 3) := by decide +kernel
theorem dX4_put_42 : decode cX4_put 42 = .ok (.aload_n 0, 1) := by decide +kernel
theorem dX4_put_43 : decode cX4_put 43 = .ok (.iconst 3, 1) := by decide +kernel
theorem dX4_put_44 : decode cX4_put 44 = .ok (.invokevirtual 55, 3) := by decide +kernel
theorem dX4_put_47 : decode cX4_put 47 = .ok (.ireturn, 1) := by decide +kernel
theorem dX4_put_48 : decode cX4_put 48 = .ok (.aload 4, 2) := by decide +kernel
theorem dX4_put_50 : decode cX4_put 50 = .ok (.iload_n 2, 1) := by decide +kernel
theorem dX4_put_51 : decode cX4_put 51 = .ok (.iload_n 3, 1) := by decide +kernel
theorem dX4_put_52 : decode cX4_put 52 = .ok (.invokevirtual 183, 3) := by decide +kernel
theorem dX4_put_55 : decode cX4_put 55 = .ok (.iconst 1, 1) := by decide +kernel
theorem dX4_put_56 : decode cX4_put 56 = .ok (.ireturn, 1) := by decide +kernel
set_option maxRecDepth 20000 in
theorem ggX4_cell_X4_isSheet : GoodIn wsX4_cell wsX4_isSheet := goodIn_r _ [6] (by decide +kernel) (by decide +kernel)
set_option maxRecDepth 20000 in
theorem gX4_cell_X4_isSheet : GoodIn wsX4_cell (va_wsS RX4 40 yX4_isSheet wsX4_isSheet) := goodIn_app (goodIn_of _ (by decide +kernel)) ggX4_cell_X4_isSheet
set_option maxRecDepth 20000 in
theorem ggX4_cell_X4_isLane : GoodIn wsX4_cell wsX4_isLane := goodIn_r _ [9] (by decide +kernel) (by decide +kernel)
set_option maxRecDepth 20000 in
theorem gX4_cell_X4_isLane : GoodIn wsX4_cell (va_wsS RX4 44 yX4_isLane wsX4_isLane) := goodIn_app (goodIn_of _ (by decide +kernel)) ggX4_cell_X4_isLane
set_option maxRecDepth 20000 in
theorem ggX4_cell_X4_rowOf : GoodIn wsX4_cell wsX4_rowOf := goodIn_r _ [13, 14, 15, 16, 5, 17, 18, 3, 4, 6, 41, 42, 43, 44, 31, 32, 33, 34, 35, 36, 37, 38, 39, 40] (by decide +kernel) (by decide +kernel)
set_option maxRecDepth 20000 in
theorem gX4_cell_X4_rowOf : GoodIn wsX4_cell (wsV RX4 47 RX4 yX4_rowOf wsX4_rowOf) := goodIn_app (goodIn_of _ (by decide +kernel)) ggX4_cell_X4_rowOf
set_option maxRecDepth 20000 in
theorem ggX4_cell_X4_faultOf : GoodIn wsX4_cell wsX4_faultOf := goodIn_r _ [21, 22, 23, 24, 25, 26, 41, 42, 43, 44] (by decide +kernel) (by decide +kernel)
set_option maxRecDepth 20000 in
theorem gX4_cell_X4_faultOf : GoodIn wsX4_cell (va_wsS RX4 51 yX4_faultOf wsX4_faultOf) := goodIn_app (goodIn_of _ (by decide +kernel)) ggX4_cell_X4_faultOf
set_option maxRecDepth 20000 in
theorem ggX4_cell_X2_at : GoodIn wsX4_cell wsX2_at := goodIn_r _ [29, 30, 41, 42, 43, 44] (by decide +kernel) (by decide +kernel)
set_option maxRecDepth 20000 in
theorem gX4_cell_X2_at_n186 : GoodIn wsX4_cell (wsX2_at) := ggX4_cell_X2_at
theorem dX4_cell_0 : decode cX4_cell 0 = .ok (.aload_n 0, 1) := by decide +kernel
theorem dX4_cell_1 : decode cX4_cell 1 = .ok (.iconst 0, 1) := by decide +kernel
theorem dX4_cell_2 : decode cX4_cell 2 = .ok (.putfield 36, 3) := by decide +kernel
theorem dX4_cell_5 : decode cX4_cell 5 = .ok (.iload_n 1, 1) := by decide +kernel
theorem dX4_cell_6 : decode cX4_cell 6 = .ok (.invokestatic 40, 3) := by decide +kernel
theorem dX4_cell_9 : decode cX4_cell 9 = .ok (.ifCond .eq 10, 3) := by decide +kernel
theorem dX4_cell_12 : decode cX4_cell 12 = .ok (.iload_n 3, 1) := by decide +kernel
theorem dX4_cell_13 : decode cX4_cell 13 = .ok (.invokestatic 44, 3) := by decide +kernel
theorem dX4_cell_16 : decode cX4_cell 16 = .ok (.ifCond .ne 7, 3) := by decide +kernel
theorem dX4_cell_19 : decode cX4_cell 19 = .ok (.ldc2_w 117, 3) := by decide +kernel
theorem dX4_cell_22 : decode cX4_cell 22 = .ok (.lreturn, 1) := by decide +kernel
theorem dX4_cell_23 : decode cX4_cell 23 = .ok (.aload_n 0, 1) := by decide +kernel
theorem dX4_cell_24 : decode cX4_cell 24 = .ok (.iload_n 1, 1) := by decide +kernel
theorem dX4_cell_25 : decode cX4_cell 25 = .ok (.invokevirtual 47, 3) := by decide +kernel
theorem dX4_cell_28 : decode cX4_cell 28 = .ok (.astore 4, 2) := by decide +kernel
theorem dX4_cell_30 : decode cX4_cell 30 = .ok (.aload 4, 2) := by decide +kernel
theorem dX4_cell_32 : decode cX4_cell 32 = .ok (.iload_n 3, 1) := by decide +kernel
theorem dX4_cell_33 : decode cX4_cell 33 = .ok (.iload_n 2, 1) := by decide +kernel
theorem dX4_cell_34 : decode cX4_cell 34 = .ok (.iconst 1, 1) := by decide +kernel
theorem dX4_cell_35 : decode cX4_cell 35 = .ok (.invokestatic 51, 3) := by decide +kernel
theorem dX4_cell_38 : decode cX4_cell 38 = .ok (.istore 5, 2) := by decide +kernel
theorem dX4_cell_40 : decode cX4_cell 40 = .ok (.aload 4, 2) := by decide +kernel
theorem dX4_cell_42 : decode cX4_cell 42 = .ok (.ifnull 8, 3) := by decide +kernel
theorem dX4_cell_45 : decode cX4_cell 45 = .ok (.iload 5, 2) := by decide +kernel
theorem dX4_cell_47 : decode cX4_cell 47 = .ok (.ifCond .eq 13, 3) := by decide +kernel
theorem dX4_cell_50 : decode cX4_cell 50 = .ok (.aload_n 0, 1) := by decide +kernel
theorem dX4_cell_51 : decode cX4_cell 51 = .ok (.iload 5, 2) := by decide +kernel
theorem dX4_cell_53 : decode cX4_cell 53 = .ok (.putfield 36, 3) := by decide +kernel
theorem dX4_cell_56 : decode cX4_cell 56 = .ok (.ldc2_w 117, 3) := by decide +kernel
theorem dX4_cell_59 : decode cX4_cell 59 = .ok (.lreturn, 1) := by decide +kernel
theorem dX4_cell_60 : decode cX4_cell 60 = .ok (.aload 4, 2) := by decide +kernel
theorem dX4_cell_62 : decode cX4_cell 62 = .ok (.iload_n 2, 1) := by decide +kernel
theorem dX4_cell_63 : decode cX4_cell 63 = .ok (.invokevirtual 186, 3) := by decide +kernel
theorem dX4_cell_66 : decode cX4_cell 66 = .ok (.i2l, 1) := by decide +kernel
theorem dX4_cell_67 : decode cX4_cell 67 = .ok (.lreturn, 1) := by decide +kernel
set_option maxRecDepth 20000 in
theorem ggX4_copy_X4_isSheet : GoodIn wsX4_copy wsX4_isSheet := goodIn_r _ [9] (by decide +kernel) (by decide +kernel)
set_option maxRecDepth 20000 in
theorem gX4_copy_X4_isSheet : GoodIn wsX4_copy (va_wsS RX4 40 yX4_isSheet wsX4_isSheet) := goodIn_app (goodIn_of _ (by decide +kernel)) ggX4_copy_X4_isSheet
set_option maxRecDepth 20000 in
theorem ggX4_copy_X4_rowOf : GoodIn wsX4_copy wsX4_rowOf := goodIn_r _ [13, 14, 15, 16, 8, 17, 18, 6, 7, 9, 38, 39, 40, 41, 28, 29, 30, 31, 32, 33, 34, 35, 36, 37] (by decide +kernel) (by decide +kernel)
set_option maxRecDepth 20000 in
theorem gX4_copy_X4_rowOf : GoodIn wsX4_copy (wsV RX4 47 RX4 yX4_rowOf wsX4_rowOf) := goodIn_app (goodIn_of _ (by decide +kernel)) ggX4_copy_X4_rowOf
set_option maxRecDepth 20000 in
theorem ggX4_copy_X4_faulted : GoodIn wsX4_copy wsX4_faulted := goodIn_r _ [22, 1, 28, 29, 30, 31, 32, 33, 34, 35, 36, 37] (by decide +kernel) (by decide +kernel)
set_option maxRecDepth 20000 in
theorem gX4_copy_X4_faulted : GoodIn wsX4_copy (wsV RX4 55 RX4 yX4_faulted wsX4_faulted) := goodIn_app (goodIn_of _ (by decide +kernel)) ggX4_copy_X4_faulted
set_option maxRecDepth 20000 in
theorem ggX4_copy_X2_holds : GoodIn wsX4_copy wsX2_holds := goodIn_r _ [26, 27, 38, 39, 40, 41] (by decide +kernel) (by decide +kernel)
set_option maxRecDepth 20000 in
theorem gX4_copy_X2_holds_n179 : GoodIn wsX4_copy (wsX2_holds) := ggX4_copy_X2_holds
theorem dX4_copy_0 : decode cX4_copy 0 = .ok (.aload_n 0, 1) := by decide +kernel
theorem dX4_copy_1 : decode cX4_copy 1 = .ok (.iconst 0, 1) := by decide +kernel
theorem dX4_copy_2 : decode cX4_copy 2 = .ok (.putfield 36, 3) := by decide +kernel
theorem dX4_copy_5 : decode cX4_copy 5 = .ok (.iload_n 1, 1) := by decide +kernel
theorem dX4_copy_6 : decode cX4_copy 6 = .ok (.invokestatic 40, 3) := by decide +kernel
theorem dX4_copy_9 : decode cX4_copy 9 = .ok (.ifCond .eq 10, 3) := by decide +kernel
theorem dX4_copy_12 : decode cX4_copy 12 = .ok (.iload_n 3, 1) := by decide +kernel
theorem dX4_copy_13 : decode cX4_copy 13 = .ok (.invokestatic 40, 3) := by decide +kernel
theorem dX4_copy_16 : decode cX4_copy 16 = .ok (.ifCond .ne 5, 3) := by decide +kernel
theorem dX4_copy_19 : decode cX4_copy 19 = .ok (.iconst (-1), 1) := by decide +kernel
theorem dX4_copy_20 : decode cX4_copy 20 = .ok (.ireturn, 1) := by decide +kernel
theorem dX4_copy_21 : decode cX4_copy 21 = .ok (.aload_n 0, 1) := by decide +kernel
theorem dX4_copy_22 : decode cX4_copy 22 = .ok (.iload_n 1, 1) := by decide +kernel
theorem dX4_copy_23 : decode cX4_copy 23 = .ok (.invokevirtual 47, 3) := by decide +kernel
theorem dX4_copy_26 : decode cX4_copy 26 = .ok (.astore 6, 2) := by decide +kernel
theorem dX4_copy_28 : decode cX4_copy 28 = .ok (.aload_n 0, 1) := by decide +kernel
theorem dX4_copy_29 : decode cX4_copy 29 = .ok (.iload_n 3, 1) := by decide +kernel
theorem dX4_copy_30 : decode cX4_copy 30 = .ok (.invokevirtual 47, 3) := by decide +kernel
theorem dX4_copy_33 : decode cX4_copy 33 = .ok (.astore 7, 2) := by decide +kernel
theorem dX4_copy_35 : decode cX4_copy 35 = .ok (.aload 6, 2) := by decide +kernel
theorem dX4_copy_37 : decode cX4_copy 37 = .ok (.ifnull 8, 3) := by decide +kernel
theorem dX4_copy_40 : decode cX4_copy 40 = .ok (.aload 7, 2) := by decide +kernel
theorem dX4_copy_42 : decode cX4_copy 42 = .ok (.ifnonnull 9, 3) := by decide +kernel
theorem dX4_copy_45 : decode cX4_copy 45 = .ok (.aload_n 0, 1) := by decide +kernel
theorem dX4_copy_46 : decode cX4_copy 46 = .ok (.iconst 1, 1) := by decide +kernel
theorem dX4_copy_47 : decode cX4_copy 47 = .ok (.invokevirtual 55, 3) := by decide +kernel
theorem dX4_copy_50 : decode cX4_copy 50 = .ok (.ireturn, 1) := by decide +kernel
theorem dX4_copy_51 : decode cX4_copy 51 = .ok (.aload 6, 2) := by decide +kernel
theorem dX4_copy_53 : decode cX4_copy 53 = .ok (.getfield 189, 3) := by decide +kernel
theorem dX4_copy_56 : decode cX4_copy 56 = .ok (.aload 7, 2) := by decide +kernel
theorem dX4_copy_58 : decode cX4_copy 58 = .ok (.getfield 189, 3) := by decide +kernel
theorem dX4_copy_61 : decode cX4_copy 61 = .ok (.if_icmp .eq 9, 3) := by decide +kernel
theorem dX4_copy_64 : decode cX4_copy 64 = .ok (.aload_n 0, 1) := by decide +kernel
theorem dX4_copy_65 : decode cX4_copy 65 = .ok (.iconst 2, 1) := by decide +kernel
theorem dX4_copy_66 : decode cX4_copy 66 = .ok (.invokevirtual 55, 3) := by decide +kernel
theorem dX4_copy_69 : decode cX4_copy 69 = .ok (.ireturn, 1) := by decide +kernel
theorem dX4_copy_70 : decode cX4_copy 70 = .ok (.aload 6, 2) := by decide +kernel
theorem dX4_copy_72 : decode cX4_copy 72 = .ok (.iload_n 2, 1) := by decide +kernel
theorem dX4_copy_73 : decode cX4_copy 73 = .ok (.iload 5, 2) := by decide +kernel
theorem dX4_copy_75 : decode cX4_copy 75 = .ok (.invokevirtual 179, 3) := by decide +kernel
theorem dX4_copy_78 : decode cX4_copy 78 = .ok (.ifCond .eq 15, 3) := by decide +kernel
theorem dX4_copy_81 : decode cX4_copy 81 = .ok (.aload 7, 2) := by decide +kernel
theorem dX4_copy_83 : decode cX4_copy 83 = .ok (.iload 4, 2) := by decide +kernel
theorem dX4_copy_85 : decode cX4_copy 85 = .ok (.iload 5, 2) := by decide +kernel
theorem dX4_copy_87 : decode cX4_copy 87 = .ok (.invokevirtual 179, 3) := by decide +kernel
theorem dX4_copy_90 : decode cX4_copy 90 = .ok (.ifCond .ne 9, 3) := by decide +kernel
theorem dX4_copy_93 : decode cX4_copy 93 = .ok (.aload_n 0, 1) := by decide +kernel
theorem dX4_copy_94 : decode cX4_copy 94 = .ok (.iconst 3, 1) := by decide +kernel
theorem dX4_copy_95 : decode cX4_copy 95 = .ok (.invokevirtual 55, 3) := by decide +kernel
theorem dX4_copy_98 : decode cX4_copy 98 = .ok (.ireturn, 1) := by decide +kernel
theorem dX4_copy_99 : decode cX4_copy 99 = .ok (.aload 6, 2) := by decide +kernel
theorem dX4_copy_101 : decode cX4_copy 101 = .ok (.getfield 192, 3) := by decide +kernel
theorem dX4_copy_104 : decode cX4_copy 104 = .ok (.iload_n 2, 1) := by decide +kernel
theorem dX4_copy_105 : decode cX4_copy 105 = .ok (.aload 7, 2) := by decide +kernel
theorem dX4_copy_107 : decode cX4_copy 107 = .ok (.getfield 192, 3) := by decide +kernel
theorem dX4_copy_110 : decode cX4_copy 110 = .ok (.iload 4, 2) := by decide +kernel
theorem dX4_copy_112 : decode cX4_copy 112 = .ok (.iload 5, 2) := by decide +kernel
theorem dX4_copy_114 : decode cX4_copy 114 = .ok (.invokestatic 195, 3) := by decide +kernel
theorem dX4_copy_117 : decode cX4_copy 117 = .ok (.iload 5, 2) := by decide +kernel
theorem dX4_copy_119 : decode cX4_copy 119 = .ok (.ireturn, 1) := by decide +kernel
set_option maxRecDepth 20000 in
theorem ggX4_tell_X4_citizen : GoodIn wsX4_tell wsX4_citizen := goodIn_r _ [5, 6, 7, 29, 30, 31, 32, 33, 34, 35, 36, 37, 38] (by decide +kernel) (by decide +kernel)
set_option maxRecDepth 20000 in
theorem gX4_tell_X4_citizen : GoodIn wsX4_tell (wsV RX4 72 RX4 yX4_citizen wsX4_citizen) := goodIn_app (goodIn_of _ (by decide +kernel)) ggX4_tell_X4_citizen
set_option maxRecDepth 20000 in
theorem ggX4_tell_X4_miserTells : GoodIn wsX4_tell wsX4_miserTells := goodIn_r _ [11, 12, 13, 14, 4, 15, 16, 17, 18, 19, 20, 21, 22, 23, 24, 29, 30, 31, 32, 33, 34, 35, 36, 37, 38] (by decide +kernel) (by decide +kernel)
set_option maxRecDepth 20000 in
theorem gX4_tell_X4_miserTells : GoodIn wsX4_tell (wsV RX4 201 RX4 yX4_miserTells wsX4_miserTells) := goodIn_app (goodIn_of _ (by decide +kernel)) ggX4_tell_X4_miserTells
set_option maxRecDepth 20000 in
theorem ggX4_tell_X4_richTells : GoodIn wsX4_tell wsX4_richTells := goodIn_r _ [20, 12, 13, 14, 4, 15, 16, 21, 22, 23, 24, 29, 30, 31, 32, 33, 34, 35, 36, 37, 38] (by decide +kernel) (by decide +kernel)
set_option maxRecDepth 20000 in
theorem gX4_tell_X4_richTells : GoodIn wsX4_tell (wsV RX4 204 RX4 yX4_richTells wsX4_richTells) := goodIn_app (goodIn_of _ (by decide +kernel)) ggX4_tell_X4_richTells
set_option maxRecDepth 20000 in
theorem ggX4_tell_X4_citizenTells : GoodIn wsX4_tell wsX4_citizenTells := goodIn_r _ [24, 12, 13, 14, 4, 15, 16, 29, 30, 31, 32, 33, 34, 35, 36, 37, 38] (by decide +kernel) (by decide +kernel)
set_option maxRecDepth 20000 in
theorem gX4_tell_X4_citizenTells : GoodIn wsX4_tell (wsV RX4 207 RX4 yX4_citizenTells wsX4_citizenTells) := goodIn_app (goodIn_of _ (by decide +kernel)) ggX4_tell_X4_citizenTells
theorem dX4_tell_0 : decode cX4_tell 0 = .ok (.aload_n 0, 1) := by decide +kernel
theorem dX4_tell_1 : decode cX4_tell 1 = .ok (.iload_n 1, 1) := by decide +kernel
theorem dX4_tell_2 : decode cX4_tell 2 = .ok (.invokevirtual 72, 3) := by decide +kernel
theorem dX4_tell_5 : decode cX4_tell 5 = .ok (.astore_n 2, 1) := by decide +kernel
theorem dX4_tell_6 : decode cX4_tell 6 = .ok (.aload_n 2, 1) := by decide +kernel
theorem dX4_tell_7 : decode cX4_tell 7 = .ok (.ifnonnull 5, 3) := by decide +kernel
theorem dX4_tell_10 : decode cX4_tell 10 = .ok (.iconst (-1), 1) := by decide +kernel
theorem dX4_tell_11 : decode cX4_tell 11 = .ok (.ireturn, 1) := by decide +kernel
theorem dX4_tell_12 : decode cX4_tell 12 = .ok (.aload_n 2, 1) := by decide +kernel
theorem dX4_tell_13 : decode cX4_tell 13 = .ok (.getfield 76, 3) := by decide +kernel
theorem dX4_tell_16 : decode cX4_tell 16 = .ok (.lookupswitch 46 #[(1, 37), (2, 28)], 28) := by decide +kernel
theorem dX4_tell_44 : decode cX4_tell 44 = .ok (.aload_n 0, 1) := by decide +kernel
theorem dX4_tell_45 : decode cX4_tell 45 = .ok (.aload_n 2, 1) := by decide +kernel
theorem dX4_tell_46 : decode cX4_tell 46 = .ok (.getfield 79, 3) := by decide +kernel
theorem dX4_tell_49 : decode cX4_tell 49 = .ok (.invokevirtual 201, 3) := by decide +kernel
theorem dX4_tell_52 : decode cX4_tell 52 = .ok (.ireturn, 1) := by decide +kernel
theorem dX4_tell_53 : decode cX4_tell 53 = .ok (.aload_n 0, 1) := by decide +kernel
theorem dX4_tell_54 : decode cX4_tell 54 = .ok (.aload_n 2, 1) := by decide +kernel
theorem dX4_tell_55 : decode cX4_tell 55 = .ok (.getfield 79, 3) := by decide +kernel
theorem dX4_tell_58 : decode cX4_tell 58 = .ok (.invokevirtual 204, 3) := by decide +kernel
theorem dX4_tell_61 : decode cX4_tell 61 = .ok (.ireturn, 1) := by decide +kernel
theorem dX4_tell_62 : decode cX4_tell 62 = .ok (.aload_n 0, 1) := by decide +kernel
theorem dX4_tell_63 : decode cX4_tell 63 = .ok (.aload_n 2, 1) := by decide +kernel
theorem dX4_tell_64 : decode cX4_tell 64 = .ok (.getfield 79, 3) := by decide +kernel
theorem dX4_tell_67 : decode cX4_tell 67 = .ok (.invokevirtual 207, 3) := by decide +kernel
theorem dX4_tell_70 : decode cX4_tell 70 = .ok (.ireturn, 1) := by decide +kernel
set_option maxRecDepth 20000 in
theorem ggX4_call_X4_citizen : GoodIn wsX4_call wsX4_citizen := goodIn_r _ [5, 6, 7, 17, 18, 19, 20, 21, 22, 23, 24, 25, 26] (by decide +kernel) (by decide +kernel)
set_option maxRecDepth 20000 in
theorem gX4_call_X4_citizen : GoodIn wsX4_call (wsV RX4 72 RX4 yX4_citizen wsX4_citizen) := goodIn_app (goodIn_of _ (by decide +kernel)) ggX4_call_X4_citizen
set_option maxRecDepth 20000 in
theorem ggX4_call_X4_leaveInTrace : GoodIn wsX4_call wsX4_leaveInTrace := goodIn_r _ [11, 12, 17, 18, 19, 20, 21, 22, 23, 24, 25, 26] (by decide +kernel) (by decide +kernel)
set_option maxRecDepth 20000 in
theorem gX4_call_X4_leaveInTrace : GoodIn wsX4_call (wsV RX4 210 RX4 yX4_leaveInTrace wsX4_leaveInTrace) := goodIn_app (goodIn_of _ (by decide +kernel)) ggX4_call_X4_leaveInTrace
theorem dX4_call_0 : decode cX4_call 0 = .ok (.aload_n 0, 1) := by decide +kernel
theorem dX4_call_1 : decode cX4_call 1 = .ok (.iload_n 1, 1) := by decide +kernel
theorem dX4_call_2 : decode cX4_call 2 = .ok (.invokevirtual 72, 3) := by decide +kernel
theorem dX4_call_5 : decode cX4_call 5 = .ok (.astore_n 2, 1) := by decide +kernel
theorem dX4_call_6 : decode cX4_call 6 = .ok (.aload_n 2, 1) := by decide +kernel
theorem dX4_call_7 : decode cX4_call 7 = .ok (.ifnonnull 5, 3) := by decide +kernel
theorem dX4_call_10 : decode cX4_call 10 = .ok (.iconst (-1), 1) := by decide +kernel
theorem dX4_call_11 : decode cX4_call 11 = .ok (.ireturn, 1) := by decide +kernel
theorem dX4_call_12 : decode cX4_call 12 = .ok (.aload_n 2, 1) := by decide +kernel
theorem dX4_call_13 : decode cX4_call 13 = .ok (.getfield 76, 3) := by decide +kernel
theorem dX4_call_16 : decode cX4_call 16 = .ok (.iconst 2, 1) := by decide +kernel
theorem dX4_call_17 : decode cX4_call 17 = .ok (.if_icmp .ne 11, 3) := by decide +kernel
theorem dX4_call_20 : decode cX4_call 20 = .ok (.aload_n 0, 1) := by decide +kernel
theorem dX4_call_21 : decode cX4_call 21 = .ok (.iconst 5, 1) := by decide +kernel
theorem dX4_call_22 : decode cX4_call 22 = .ok (.invokevirtual 210, 3) := by decide +kernel
theorem dX4_call_25 : decode cX4_call 25 = .ok (.bipush 20, 2) := by decide +kernel
theorem dX4_call_27 : decode cX4_call 27 = .ok (.ireturn, 1) := by decide +kernel
theorem dX4_call_28 : decode cX4_call 28 = .ok (.aload_n 0, 1) := by decide +kernel
theorem dX4_call_29 : decode cX4_call 29 = .ok (.iconst 4, 1) := by decide +kernel
theorem dX4_call_30 : decode cX4_call 30 = .ok (.invokevirtual 210, 3) := by decide +kernel
theorem dX4_call_33 : decode cX4_call 33 = .ok (.iload_n 1, 1) := by decide +kernel
theorem dX4_call_34 : decode cX4_call 34 = .ok (.ireturn, 1) := by decide +kernel
set_option maxRecDepth 20000 in
theorem ggX4_as_X4_citizen : GoodIn wsX4_as wsX4_citizen := goodIn_r _ [6, 7, 8, 13, 14, 15, 16, 17, 18, 19, 20, 21, 22] (by decide +kernel) (by decide +kernel)
set_option maxRecDepth 20000 in
theorem gX4_as_X4_citizen : GoodIn wsX4_as (wsV RX4 72 RX4 yX4_citizen wsX4_citizen) := goodIn_app (goodIn_of _ (by decide +kernel)) ggX4_as_X4_citizen
set_option maxRecDepth 20000 in
theorem ggX4_as_X4_faulted : GoodIn wsX4_as wsX4_faulted := goodIn_r _ [12, 1, 13, 14, 15, 16, 17, 18, 19, 20, 21, 22] (by decide +kernel) (by decide +kernel)
set_option maxRecDepth 20000 in
theorem gX4_as_X4_faulted : GoodIn wsX4_as (wsV RX4 55 RX4 yX4_faulted wsX4_faulted) := goodIn_app (goodIn_of _ (by decide +kernel)) ggX4_as_X4_faulted
theorem dX4_as_0 : decode cX4_as 0 = .ok (.aload_n 0, 1) := by decide +kernel
theorem dX4_as_1 : decode cX4_as 1 = .ok (.iconst 0, 1) := by decide +kernel
theorem dX4_as_2 : decode cX4_as 2 = .ok (.putfield 36, 3) := by decide +kernel
theorem dX4_as_5 : decode cX4_as 5 = .ok (.aload_n 0, 1) := by decide +kernel
theorem dX4_as_6 : decode cX4_as 6 = .ok (.iload_n 1, 1) := by decide +kernel
theorem dX4_as_7 : decode cX4_as 7 = .ok (.invokevirtual 72, 3) := by decide +kernel
theorem dX4_as_10 : decode cX4_as 10 = .ok (.astore_n 3, 1) := by decide +kernel
theorem dX4_as_11 : decode cX4_as 11 = .ok (.aload_n 3, 1) := by decide +kernel
theorem dX4_as_12 : decode cX4_as 12 = .ok (.ifnonnull 5, 3) := by decide +kernel
theorem dX4_as_15 : decode cX4_as 15 = .ok (.iconst (-1), 1) := by decide +kernel
theorem dX4_as_16 : decode cX4_as 16 = .ok (.ireturn, 1) := by decide +kernel
theorem dX4_as_17 : decode cX4_as 17 = .ok (.iload_n 2, 1) := by decide +kernel
theorem dX4_as_18 : decode cX4_as 18 = .ok (.ifCond .lt 8, 3) := by decide +kernel
theorem dX4_as_21 : decode cX4_as 21 = .ok (.iload_n 2, 1) := by decide +kernel
theorem dX4_as_22 : decode cX4_as 22 = .ok (.iconst 2, 1) := by decide +kernel
theorem dX4_as_23 : decode cX4_as 23 = .ok (.if_icmp .le 6, 3) := by decide +kernel
theorem dX4_as_26 : decode cX4_as 26 = .ok (.bipush (-2), 2) := by decide +kernel
theorem dX4_as_28 : decode cX4_as 28 = .ok (.ireturn, 1) := by decide +kernel
theorem dX4_as_29 : decode cX4_as 29 = .ok (.aload_n 3, 1) := by decide +kernel
theorem dX4_as_30 : decode cX4_as 30 = .ok (.getfield 76, 3) := by decide +kernel
theorem dX4_as_33 : decode cX4_as 33 = .ok (.iload_n 2, 1) := by decide +kernel
theorem dX4_as_34 : decode cX4_as 34 = .ok (.if_icmp .ge 11, 3) := by decide +kernel
theorem dX4_as_37 : decode cX4_as 37 = .ok (.aload_n 0, 1) := by decide +kernel
theorem dX4_as_38 : decode cX4_as 38 = .ok (.iconst 2, 1) := by decide +kernel
theorem dX4_as_39 : decode cX4_as 39 = .ok (.invokevirtual 55, 3) := by decide +kernel
theorem dX4_as_42 : decode cX4_as 42 = .ok (.goto 4, 3) := by decide +kernel
theorem dX4_as_45 : decode cX4_as 45 = .ok (.iconst 1, 1) := by decide +kernel
theorem dX4_as_46 : decode cX4_as 46 = .ok (.ireturn, 1) := by decide +kernel
theorem dX4_trace_0 : decode cX4_trace 0 = .ok (.aload_n 0, 1) := by decide +kernel
theorem dX4_trace_1 : decode cX4_trace 1 = .ok (.getfield 213, 3) := by decide +kernel
theorem dX4_trace_4 : decode cX4_trace 4 = .ok (.ireturn, 1) := by decide +kernel
theorem dX4_fault_0 : decode cX4_fault 0 = .ok (.aload_n 0, 1) := by decide +kernel
theorem dX4_fault_1 : decode cX4_fault 1 = .ok (.getfield 36, 3) := by decide +kernel
theorem dX4_fault_4 : decode cX4_fault 4 = .ok (.ireturn, 1) := by decide +kernel
set_option maxRecDepth 20000 in
theorem ggX4_many_X4_slipsAhead : GoodIn wsX4_many wsX4_slipsAhead := goodIn_r _ [9, 10, 11, 12, 8, 13, 1, 14, 15, 16, 17, 18, 19, 20, 21, 22, 23, 24, 25, 26, 27, 28, 29, 30, 31, 32, 33, 34, 35, 36] (by decide +kernel) (by decide +kernel)
set_option maxRecDepth 20000 in
theorem gX4_many_X4_slipsAhead : GoodIn wsX4_many (wsV RX4 93 RX4 yX4_slipsAhead wsX4_slipsAhead) := goodIn_app (goodIn_of _ (by decide +kernel)) ggX4_many_X4_slipsAhead
theorem dX4_many_0 : decode cX4_many 0 = .ok (.iload_n 1, 1) := by decide +kernel
theorem dX4_many_1 : decode cX4_many 1 = .ok (.tableswitch 64 0 4 #[35, 40, 49, 54, 59], 35) := by decide +kernel
theorem dX4_many_36 : decode cX4_many 36 = .ok (.aload_n 0, 1) := by decide +kernel
theorem dX4_many_37 : decode cX4_many 37 = .ok (.getfield 69, 3) := by decide +kernel
theorem dX4_many_40 : decode cX4_many 40 = .ok (.ireturn, 1) := by decide +kernel
theorem dX4_many_41 : decode cX4_many 41 = .ok (.aload_n 0, 1) := by decide +kernel
theorem dX4_many_42 : decode cX4_many 42 = .ok (.aload_n 0, 1) := by decide +kernel
theorem dX4_many_43 : decode cX4_many 43 = .ok (.getfield 69, 3) := by decide +kernel
theorem dX4_many_46 : decode cX4_many 46 = .ok (.invokevirtual 93, 3) := by decide +kernel
theorem dX4_many_49 : decode cX4_many 49 = .ok (.ireturn, 1) := by decide +kernel
theorem dX4_many_50 : decode cX4_many 50 = .ok (.aload_n 0, 1) := by decide +kernel
theorem dX4_many_51 : decode cX4_many 51 = .ok (.getfield 96, 3) := by decide +kernel
theorem dX4_many_54 : decode cX4_many 54 = .ok (.ireturn, 1) := by decide +kernel
theorem dX4_many_55 : decode cX4_many 55 = .ok (.aload_n 0, 1) := by decide +kernel
theorem dX4_many_56 : decode cX4_many 56 = .ok (.getfield 99, 3) := by decide +kernel
theorem dX4_many_59 : decode cX4_many 59 = .ok (.ireturn, 1) := by decide +kernel
theorem dX4_many_60 : decode cX4_many 60 = .ok (.aload_n 0, 1) := by decide +kernel
theorem dX4_many_61 : decode cX4_many 61 = .ok (.getfield 160, 3) := by decide +kernel
theorem dX4_many_64 : decode cX4_many 64 = .ok (.ireturn, 1) := by decide +kernel
theorem dX4_many_65 : decode cX4_many 65 = .ok (.bipush (-2), 2) := by decide +kernel
theorem dX4_many_67 : decode cX4_many 67 = .ok (.ireturn, 1) := by decide +kernel
theorem dX4_isSheet_0 : decode cX4_isSheet 0 = .ok (.iload_n 0, 1) := by decide +kernel
theorem dX4_isSheet_1 : decode cX4_isSheet 1 = .ok (.ifCond .lt 12, 3) := by decide +kernel
theorem dX4_isSheet_4 : decode cX4_isSheet 4 = .ok (.iload_n 0, 1) := by decide +kernel
theorem dX4_isSheet_5 : decode cX4_isSheet 5 = .ok (.iconst 4, 1) := by decide +kernel
theorem dX4_isSheet_6 : decode cX4_isSheet 6 = .ok (.if_icmp .ge 7, 3) := by decide +kernel
theorem dX4_isSheet_9 : decode cX4_isSheet 9 = .ok (.iconst 1, 1) := by decide +kernel
theorem dX4_isSheet_10 : decode cX4_isSheet 10 = .ok (.goto 4, 3) := by decide +kernel
theorem dX4_isSheet_13 : decode cX4_isSheet 13 = .ok (.iconst 0, 1) := by decide +kernel
theorem dX4_isSheet_14 : decode cX4_isSheet 14 = .ok (.ireturn, 1) := by decide +kernel
theorem dX4_isLane_0 : decode cX4_isLane 0 = .ok (.iload_n 0, 1) := by decide +kernel
theorem dX4_isLane_1 : decode cX4_isLane 1 = .ok (.ifCond .lt 12, 3) := by decide +kernel
theorem dX4_isLane_4 : decode cX4_isLane 4 = .ok (.iload_n 0, 1) := by decide +kernel
theorem dX4_isLane_5 : decode cX4_isLane 5 = .ok (.iconst 3, 1) := by decide +kernel
theorem dX4_isLane_6 : decode cX4_isLane 6 = .ok (.if_icmp .ge 7, 3) := by decide +kernel
theorem dX4_isLane_9 : decode cX4_isLane 9 = .ok (.iconst 1, 1) := by decide +kernel
theorem dX4_isLane_10 : decode cX4_isLane 10 = .ok (.goto 4, 3) := by decide +kernel
theorem dX4_isLane_13 : decode cX4_isLane 13 = .ok (.iconst 0, 1) := by decide +kernel
theorem dX4_isLane_14 : decode cX4_isLane 14 = .ok (.ireturn, 1) := by decide +kernel
theorem dX4_isWhich_0 : decode cX4_isWhich 0 = .ok (.iload_n 0, 1) := by decide +kernel
theorem dX4_isWhich_1 : decode cX4_isWhich 1 = .ok (.ifCond .eq 8, 3) := by decide +kernel
theorem dX4_isWhich_4 : decode cX4_isWhich 4 = .ok (.iload_n 0, 1) := by decide +kernel
theorem dX4_isWhich_5 : decode cX4_isWhich 5 = .ok (.iconst 1, 1) := by decide +kernel
theorem dX4_isWhich_6 : decode cX4_isWhich 6 = .ok (.if_icmp .ne 7, 3) := by decide +kernel
theorem dX4_isWhich_9 : decode cX4_isWhich 9 = .ok (.iconst 1, 1) := by decide +kernel
theorem dX4_isWhich_10 : decode cX4_isWhich 10 = .ok (.goto 4, 3) := by decide +kernel
theorem dX4_isWhich_13 : decode cX4_isWhich 13 = .ok (.iconst 0, 1) := by decide +kernel
theorem dX4_isWhich_14 : decode cX4_isWhich 14 = .ok (.ireturn, 1) := by decide +kernel
theorem dX4_isSet_0 : decode cX4_isSet 0 = .ok (.iload_n 1, 1) := by decide +kernel
theorem dX4_isSet_1 : decode cX4_isSet 1 = .ok (.ifCond .lt 17, 3) := by decide +kernel
theorem dX4_isSet_4 : decode cX4_isSet 4 = .ok (.iload_n 1, 1) := by decide +kernel
theorem dX4_isSet_5 : decode cX4_isSet 5 = .ok (.iconst 1, 1) := by decide +kernel
theorem dX4_isSet_6 : decode cX4_isSet 6 = .ok (.aload_n 0, 1) := by decide +kernel
theorem dX4_isSet_7 : decode cX4_isSet 7 = .ok (.getfield 69, 3) := by decide +kernel
theorem dX4_isSet_10 : decode cX4_isSet 10 = .ok (.ishl, 1) := by decide +kernel
theorem dX4_isSet_11 : decode cX4_isSet 11 = .ok (.if_icmp .ge 7, 3) := by decide +kernel
theorem dX4_isSet_14 : decode cX4_isSet 14 = .ok (.iconst 1, 1) := by decide +kernel
theorem dX4_isSet_15 : decode cX4_isSet 15 = .ok (.goto 4, 3) := by decide +kernel
theorem dX4_isSet_18 : decode cX4_isSet 18 = .ok (.iconst 0, 1) := by decide +kernel
theorem dX4_isSet_19 : decode cX4_isSet 19 = .ok (.ireturn, 1) := by decide +kernel
theorem dX4_citizen_0 : decode cX4_citizen 0 = .ok (.iload_n 1, 1) := by decide +kernel
theorem dX4_citizen_1 : decode cX4_citizen 1 = .ok (.ifCond .lt 29, 3) := by decide +kernel
theorem dX4_citizen_4 : decode cX4_citizen 4 = .ok (.iload_n 1, 1) := by decide +kernel
theorem dX4_citizen_5 : decode cX4_citizen 5 = .ok (.aload_n 0, 1) := by decide +kernel
theorem dX4_citizen_6 : decode cX4_citizen 6 = .ok (.getfield 69, 3) := by decide +kernel
theorem dX4_citizen_9 : decode cX4_citizen 9 = .ok (.if_icmp .ge 21, 3) := by decide +kernel
theorem dX4_citizen_12 : decode cX4_citizen 12 = .ok (.iload_n 1, 1) := by decide +kernel
theorem dX4_citizen_13 : decode cX4_citizen 13 = .ok (.aload_n 0, 1) := by decide +kernel
theorem dX4_citizen_14 : decode cX4_citizen 14 = .ok (.getfield 13, 3) := by decide +kernel
theorem dX4_citizen_17 : decode cX4_citizen 17 = .ok (.arraylength, 1) := by decide +kernel
theorem dX4_citizen_18 : decode cX4_citizen 18 = .ok (.if_icmp .ge 12, 3) := by decide +kernel
theorem dX4_citizen_21 : decode cX4_citizen 21 = .ok (.aload_n 0, 1) := by decide +kernel
theorem dX4_citizen_22 : decode cX4_citizen 22 = .ok (.getfield 13, 3) := by decide +kernel
theorem dX4_citizen_25 : decode cX4_citizen 25 = .ok (.iload_n 1, 1) := by decide +kernel
theorem dX4_citizen_26 : decode cX4_citizen 26 = .ok (.aaload, 1) := by decide +kernel
theorem dX4_citizen_27 : decode cX4_citizen 27 = .ok (.goto 4, 3) := by decide +kernel
theorem dX4_citizen_30 : decode cX4_citizen 30 = .ok (.aconst_null, 1) := by decide +kernel
theorem dX4_citizen_31 : decode cX4_citizen 31 = .ok (.areturn, 1) := by decide +kernel
set_option maxRecDepth 20000 in
theorem ggX4_placeOf_X4_isSheet : GoodIn wsX4_placeOf wsX4_isSheet := goodIn_r _ [5] (by decide +kernel) (by decide +kernel)
set_option maxRecDepth 20000 in
theorem gX4_placeOf_X4_isSheet : GoodIn wsX4_placeOf (va_wsS RX4 40 yX4_isSheet wsX4_isSheet) := goodIn_app (goodIn_of _ (by decide +kernel)) ggX4_placeOf_X4_isSheet
theorem dX4_placeOf_0 : decode cX4_placeOf 0 = .ok (.iload_n 1, 1) := by decide +kernel
theorem dX4_placeOf_1 : decode cX4_placeOf 1 = .ok (.invokestatic 40, 3) := by decide +kernel
theorem dX4_placeOf_4 : decode cX4_placeOf 4 = .ok (.ifCond .eq 21, 3) := by decide +kernel
theorem dX4_placeOf_7 : decode cX4_placeOf 7 = .ok (.iload_n 1, 1) := by decide +kernel
theorem dX4_placeOf_8 : decode cX4_placeOf 8 = .ok (.aload_n 0, 1) := by decide +kernel
theorem dX4_placeOf_9 : decode cX4_placeOf 9 = .ok (.getfield 23, 3) := by decide +kernel
theorem dX4_placeOf_12 : decode cX4_placeOf 12 = .ok (.arraylength, 1) := by decide +kernel
theorem dX4_placeOf_13 : decode cX4_placeOf 13 = .ok (.if_icmp .ge 12, 3) := by decide +kernel
theorem dX4_placeOf_16 : decode cX4_placeOf 16 = .ok (.aload_n 0, 1) := by decide +kernel
theorem dX4_placeOf_17 : decode cX4_placeOf 17 = .ok (.getfield 23, 3) := by decide +kernel
theorem dX4_placeOf_20 : decode cX4_placeOf 20 = .ok (.iload_n 1, 1) := by decide +kernel
theorem dX4_placeOf_21 : decode cX4_placeOf 21 = .ok (.aaload, 1) := by decide +kernel
theorem dX4_placeOf_22 : decode cX4_placeOf 22 = .ok (.goto 4, 3) := by decide +kernel
theorem dX4_placeOf_25 : decode cX4_placeOf 25 = .ok (.aconst_null, 1) := by decide +kernel
theorem dX4_placeOf_26 : decode cX4_placeOf 26 = .ok (.areturn, 1) := by decide +kernel
set_option maxRecDepth 20000 in
theorem ggX4_rowOf_X4_placeOf : GoodIn wsX4_rowOf wsX4_placeOf := goodIn_r _ [5, 6, 7, 8, 4, 9, 14, 15, 16, 17, 18, 19, 20, 21, 22, 23] (by decide +kernel) (by decide +kernel)
set_option maxRecDepth 20000 in
theorem gX4_rowOf_X4_placeOf : GoodIn wsX4_rowOf (wsV RX4 170 RX4 yX4_placeOf wsX4_placeOf) := goodIn_app (goodIn_of _ (by decide +kernel)) ggX4_rowOf_X4_placeOf
theorem dX4_rowOf_0 : decode cX4_rowOf 0 = .ok (.aload_n 0, 1) := by decide +kernel
theorem dX4_rowOf_1 : decode cX4_rowOf 1 = .ok (.iload_n 1, 1) := by decide +kernel
theorem dX4_rowOf_2 : decode cX4_rowOf 2 = .ok (.invokevirtual 170, 3) := by decide +kernel
theorem dX4_rowOf_5 : decode cX4_rowOf 5 = .ok (.astore_n 2, 1) := by decide +kernel
theorem dX4_rowOf_6 : decode cX4_rowOf 6 = .ok (.aload_n 2, 1) := by decide +kernel
theorem dX4_rowOf_7 : decode cX4_rowOf 7 = .ok (.ifnull 14, 3) := by decide +kernel
theorem dX4_rowOf_10 : decode cX4_rowOf 10 = .ok (.aload_n 2, 1) := by decide +kernel
theorem dX4_rowOf_11 : decode cX4_rowOf 11 = .ok (.getfield 216, 3) := by decide +kernel
theorem dX4_rowOf_14 : decode cX4_rowOf 14 = .ok (.ifCond .eq 7, 3) := by decide +kernel
theorem dX4_rowOf_17 : decode cX4_rowOf 17 = .ok (.aload_n 2, 1) := by decide +kernel
theorem dX4_rowOf_18 : decode cX4_rowOf 18 = .ok (.goto 4, 3) := by decide +kernel
theorem dX4_rowOf_21 : decode cX4_rowOf 21 = .ok (.aconst_null, 1) := by decide +kernel
theorem dX4_rowOf_22 : decode cX4_rowOf 22 = .ok (.areturn, 1) := by decide +kernel
theorem dX4_faulted_0 : decode cX4_faulted 0 = .ok (.aload_n 0, 1) := by decide +kernel
theorem dX4_faulted_1 : decode cX4_faulted 1 = .ok (.iload_n 1, 1) := by decide +kernel
theorem dX4_faulted_2 : decode cX4_faulted 2 = .ok (.putfield 36, 3) := by decide +kernel
theorem dX4_faulted_5 : decode cX4_faulted 5 = .ok (.bipush (-10), 2) := by decide +kernel
theorem dX4_faulted_7 : decode cX4_faulted 7 = .ok (.iload_n 1, 1) := by decide +kernel
theorem dX4_faulted_8 : decode cX4_faulted 8 = .ok (.isub, 1) := by decide +kernel
theorem dX4_faulted_9 : decode cX4_faulted 9 = .ok (.ireturn, 1) := by decide +kernel
set_option maxRecDepth 20000 in
theorem ggX4_faultOf_X2_holds : GoodIn wsX4_faultOf wsX2_holds := goodIn_r _ [4, 5, 6, 7, 8, 9] (by decide +kernel) (by decide +kernel)
set_option maxRecDepth 20000 in
theorem gX4_faultOf_X2_holds_n179 : GoodIn wsX4_faultOf (wsX2_holds) := ggX4_faultOf_X2_holds
theorem dX4_faultOf_0 : decode cX4_faultOf 0 = .ok (.aload_n 0, 1) := by decide +kernel
theorem dX4_faultOf_1 : decode cX4_faultOf 1 = .ok (.ifnonnull 5, 3) := by decide +kernel
theorem dX4_faultOf_4 : decode cX4_faultOf 4 = .ok (.iconst 1, 1) := by decide +kernel
theorem dX4_faultOf_5 : decode cX4_faultOf 5 = .ok (.ireturn, 1) := by decide +kernel
theorem dX4_faultOf_6 : decode cX4_faultOf 6 = .ok (.aload_n 0, 1) := by decide +kernel
theorem dX4_faultOf_7 : decode cX4_faultOf 7 = .ok (.getfield 189, 3) := by decide +kernel
theorem dX4_faultOf_10 : decode cX4_faultOf 10 = .ok (.iload_n 1, 1) := by decide +kernel
theorem dX4_faultOf_11 : decode cX4_faultOf 11 = .ok (.if_icmp .eq 5, 3) := by decide +kernel
theorem dX4_faultOf_14 : decode cX4_faultOf 14 = .ok (.iconst 2, 1) := by decide +kernel
theorem dX4_faultOf_15 : decode cX4_faultOf 15 = .ok (.ireturn, 1) := by decide +kernel
theorem dX4_faultOf_16 : decode cX4_faultOf 16 = .ok (.iload_n 3, 1) := by decide +kernel
theorem dX4_faultOf_17 : decode cX4_faultOf 17 = .ok (.ifCond .ge 5, 3) := by decide +kernel
theorem dX4_faultOf_20 : decode cX4_faultOf 20 = .ok (.iconst 4, 1) := by decide +kernel
theorem dX4_faultOf_21 : decode cX4_faultOf 21 = .ok (.ireturn, 1) := by decide +kernel
theorem dX4_faultOf_22 : decode cX4_faultOf 22 = .ok (.aload_n 0, 1) := by decide +kernel
theorem dX4_faultOf_23 : decode cX4_faultOf 23 = .ok (.iload_n 2, 1) := by decide +kernel
theorem dX4_faultOf_24 : decode cX4_faultOf 24 = .ok (.iload_n 3, 1) := by decide +kernel
theorem dX4_faultOf_25 : decode cX4_faultOf 25 = .ok (.invokevirtual 179, 3) := by decide +kernel
theorem dX4_faultOf_28 : decode cX4_faultOf 28 = .ok (.ifCond .eq 7, 3) := by decide +kernel
theorem dX4_faultOf_31 : decode cX4_faultOf 31 = .ok (.iconst 0, 1) := by decide +kernel
theorem dX4_faultOf_32 : decode cX4_faultOf 32 = .ok (.goto 4, 3) := by decide +kernel
theorem dX4_faultOf_35 : decode cX4_faultOf 35 = .ok (.iconst 3, 1) := by decide +kernel
theorem dX4_faultOf_36 : decode cX4_faultOf 36 = .ok (.ireturn, 1) := by decide +kernel
theorem dX4_slipsOf_0 : decode cX4_slipsOf 0 = .ok (.iload_n 0, 1) := by decide +kernel
theorem dX4_slipsOf_1 : decode cX4_slipsOf 1 = .ok (.iconst 1, 1) := by decide +kernel
theorem dX4_slipsOf_2 : decode cX4_slipsOf 2 = .ok (.if_icmp .lt 9, 3) := by decide +kernel
theorem dX4_slipsOf_5 : decode cX4_slipsOf 5 = .ok (.iload_n 1, 1) := by decide +kernel
theorem dX4_slipsOf_6 : decode cX4_slipsOf 6 = .ok (.iconst 1, 1) := by decide +kernel
theorem dX4_slipsOf_7 : decode cX4_slipsOf 7 = .ok (.iadd, 1) := by decide +kernel
theorem dX4_slipsOf_8 : decode cX4_slipsOf 8 = .ok (.goto 4, 3) := by decide +kernel
theorem dX4_slipsOf_11 : decode cX4_slipsOf 11 = .ok (.iload_n 1, 1) := by decide +kernel
theorem dX4_slipsOf_12 : decode cX4_slipsOf 12 = .ok (.istore_n 2, 1) := by decide +kernel
theorem dX4_slipsOf_13 : decode cX4_slipsOf 13 = .ok (.iload_n 0, 1) := by decide +kernel
theorem dX4_slipsOf_14 : decode cX4_slipsOf 14 = .ok (.iconst 2, 1) := by decide +kernel
theorem dX4_slipsOf_15 : decode cX4_slipsOf 15 = .ok (.if_icmp .lt 9, 3) := by decide +kernel
theorem dX4_slipsOf_18 : decode cX4_slipsOf 18 = .ok (.iconst 2, 1) := by decide +kernel
theorem dX4_slipsOf_19 : decode cX4_slipsOf 19 = .ok (.iload_n 2, 1) := by decide +kernel
theorem dX4_slipsOf_20 : decode cX4_slipsOf 20 = .ok (.imul, 1) := by decide +kernel
theorem dX4_slipsOf_21 : decode cX4_slipsOf 21 = .ok (.goto 4, 3) := by decide +kernel
theorem dX4_slipsOf_24 : decode cX4_slipsOf 24 = .ok (.iload_n 2, 1) := by decide +kernel
theorem dX4_slipsOf_25 : decode cX4_slipsOf 25 = .ok (.ireturn, 1) := by decide +kernel
set_option maxRecDepth 20000 in
theorem ggX4_slipsAhead_X4_citizen : GoodIn wsX4_slipsAhead wsX4_citizen := goodIn_r _ [5, 6, 7, 16, 17, 18, 19, 20, 21, 22, 23, 24, 25] (by decide +kernel) (by decide +kernel)
set_option maxRecDepth 20000 in
theorem gX4_slipsAhead_X4_citizen : GoodIn wsX4_slipsAhead (wsV RX4 72 RX4 yX4_citizen wsX4_citizen) := goodIn_app (goodIn_of _ (by decide +kernel)) ggX4_slipsAhead_X4_citizen
set_option maxRecDepth 20000 in
theorem ggX4_slipsAhead_X0_slips : GoodIn wsX4_slipsAhead wsX0_slips := goodIn_r _ [11, 12, 13, 14, 4, 15, 26, 27, 28, 29] (by decide +kernel) (by decide +kernel)
set_option maxRecDepth 20000 in
theorem gX4_slipsAhead_X0_slips_n89 : GoodIn wsX4_slipsAhead (wsX0_slips) := ggX4_slipsAhead_X0_slips
theorem dX4_slipsAhead_0 : decode cX4_slipsAhead 0 = .ok (.iconst 0, 1) := by decide +kernel
theorem dX4_slipsAhead_1 : decode cX4_slipsAhead 1 = .ok (.istore_n 2, 1) := by decide +kernel
theorem dX4_slipsAhead_2 : decode cX4_slipsAhead 2 = .ok (.iconst 0, 1) := by decide +kernel
theorem dX4_slipsAhead_3 : decode cX4_slipsAhead 3 = .ok (.istore_n 3, 1) := by decide +kernel
theorem dX4_slipsAhead_4 : decode cX4_slipsAhead 4 = .ok (.iload_n 3, 1) := by decide +kernel
theorem dX4_slipsAhead_5 : decode cX4_slipsAhead 5 = .ok (.iload_n 1, 1) := by decide +kernel
theorem dX4_slipsAhead_6 : decode cX4_slipsAhead 6 = .ok (.if_icmp .ge 33, 3) := by decide +kernel
theorem dX4_slipsAhead_9 : decode cX4_slipsAhead 9 = .ok (.aload_n 0, 1) := by decide +kernel
theorem dX4_slipsAhead_10 : decode cX4_slipsAhead 10 = .ok (.iload_n 3, 1) := by decide +kernel
theorem dX4_slipsAhead_11 : decode cX4_slipsAhead 11 = .ok (.invokevirtual 72, 3) := by decide +kernel
theorem dX4_slipsAhead_14 : decode cX4_slipsAhead 14 = .ok (.astore 4, 2) := by decide +kernel
theorem dX4_slipsAhead_16 : decode cX4_slipsAhead 16 = .ok (.iload_n 2, 1) := by decide +kernel
theorem dX4_slipsAhead_17 : decode cX4_slipsAhead 17 = .ok (.aload 4, 2) := by decide +kernel
theorem dX4_slipsAhead_19 : decode cX4_slipsAhead 19 = .ok (.ifnonnull 7, 3) := by decide +kernel
theorem dX4_slipsAhead_22 : decode cX4_slipsAhead 22 = .ok (.iconst 0, 1) := by decide +kernel
theorem dX4_slipsAhead_23 : decode cX4_slipsAhead 23 = .ok (.goto 8, 3) := by decide +kernel
theorem dX4_slipsAhead_26 : decode cX4_slipsAhead 26 = .ok (.aload 4, 2) := by decide +kernel
theorem dX4_slipsAhead_28 : decode cX4_slipsAhead 28 = .ok (.invokevirtual 89, 3) := by decide +kernel
theorem dX4_slipsAhead_31 : decode cX4_slipsAhead 31 = .ok (.iadd, 1) := by decide +kernel
theorem dX4_slipsAhead_32 : decode cX4_slipsAhead 32 = .ok (.istore_n 2, 1) := by decide +kernel
theorem dX4_slipsAhead_33 : decode cX4_slipsAhead 33 = .ok (.iinc 3 1, 3) := by decide +kernel
theorem dX4_slipsAhead_36 : decode cX4_slipsAhead 36 = .ok (.goto (-32), 3) := by decide +kernel
theorem dX4_slipsAhead_39 : decode cX4_slipsAhead 39 = .ok (.iload_n 2, 1) := by decide +kernel
theorem dX4_slipsAhead_40 : decode cX4_slipsAhead 40 = .ok (.ireturn, 1) := by decide +kernel
set_option maxRecDepth 20000 in
theorem ggX4_ownerOf_X4_citizen : GoodIn wsX4_ownerOf wsX4_citizen := goodIn_r _ [6, 1, 7, 16, 17, 18, 19, 20, 21, 22, 23, 24, 25] (by decide +kernel) (by decide +kernel)
set_option maxRecDepth 20000 in
theorem gX4_ownerOf_X4_citizen : GoodIn wsX4_ownerOf (wsV RX4 72 RX4 yX4_citizen wsX4_citizen) := goodIn_app (goodIn_of _ (by decide +kernel)) ggX4_ownerOf_X4_citizen
set_option maxRecDepth 20000 in
theorem ggX4_ownerOf_X0_slips : GoodIn wsX4_ownerOf wsX0_slips := goodIn_r _ [11, 12, 13, 14, 5, 15, 26, 27, 28, 29] (by decide +kernel) (by decide +kernel)
set_option maxRecDepth 20000 in
theorem gX4_ownerOf_X0_slips_n89 : GoodIn wsX4_ownerOf (wsX0_slips) := ggX4_ownerOf_X0_slips
theorem dX4_ownerOf_0 : decode cX4_ownerOf 0 = .ok (.iconst 0, 1) := by decide +kernel
theorem dX4_ownerOf_1 : decode cX4_ownerOf 1 = .ok (.istore_n 2, 1) := by decide +kernel
theorem dX4_ownerOf_2 : decode cX4_ownerOf 2 = .ok (.iconst 0, 1) := by decide +kernel
theorem dX4_ownerOf_3 : decode cX4_ownerOf 3 = .ok (.istore_n 3, 1) := by decide +kernel
theorem dX4_ownerOf_4 : decode cX4_ownerOf 4 = .ok (.iload_n 3, 1) := by decide +kernel
theorem dX4_ownerOf_5 : decode cX4_ownerOf 5 = .ok (.aload_n 0, 1) := by decide +kernel
theorem dX4_ownerOf_6 : decode cX4_ownerOf 6 = .ok (.getfield 69, 3) := by decide +kernel
theorem dX4_ownerOf_9 : decode cX4_ownerOf 9 = .ok (.if_icmp .ge 45, 3) := by decide +kernel
theorem dX4_ownerOf_12 : decode cX4_ownerOf 12 = .ok (.iload_n 1, 1) := by decide +kernel
theorem dX4_ownerOf_13 : decode cX4_ownerOf 13 = .ok (.iload_n 2, 1) := by decide +kernel
theorem dX4_ownerOf_14 : decode cX4_ownerOf 14 = .ok (.if_icmp .lt 40, 3) := by decide +kernel
theorem dX4_ownerOf_17 : decode cX4_ownerOf 17 = .ok (.aload_n 0, 1) := by decide +kernel
theorem dX4_ownerOf_18 : decode cX4_ownerOf 18 = .ok (.iload_n 3, 1) := by decide +kernel
theorem dX4_ownerOf_19 : decode cX4_ownerOf 19 = .ok (.invokevirtual 72, 3) := by decide +kernel
theorem dX4_ownerOf_22 : decode cX4_ownerOf 22 = .ok (.astore 4, 2) := by decide +kernel
theorem dX4_ownerOf_24 : decode cX4_ownerOf 24 = .ok (.iload_n 2, 1) := by decide +kernel
theorem dX4_ownerOf_25 : decode cX4_ownerOf 25 = .ok (.aload 4, 2) := by decide +kernel
theorem dX4_ownerOf_27 : decode cX4_ownerOf 27 = .ok (.ifnonnull 7, 3) := by decide +kernel
theorem dX4_ownerOf_30 : decode cX4_ownerOf 30 = .ok (.iconst 0, 1) := by decide +kernel
theorem dX4_ownerOf_31 : decode cX4_ownerOf 31 = .ok (.goto 8, 3) := by decide +kernel
theorem dX4_ownerOf_34 : decode cX4_ownerOf 34 = .ok (.aload 4, 2) := by decide +kernel
theorem dX4_ownerOf_36 : decode cX4_ownerOf 36 = .ok (.invokevirtual 89, 3) := by decide +kernel
theorem dX4_ownerOf_39 : decode cX4_ownerOf 39 = .ok (.iadd, 1) := by decide +kernel
theorem dX4_ownerOf_40 : decode cX4_ownerOf 40 = .ok (.istore_n 2, 1) := by decide +kernel
theorem dX4_ownerOf_41 : decode cX4_ownerOf 41 = .ok (.iload_n 1, 1) := by decide +kernel
theorem dX4_ownerOf_42 : decode cX4_ownerOf 42 = .ok (.iload_n 2, 1) := by decide +kernel
theorem dX4_ownerOf_43 : decode cX4_ownerOf 43 = .ok (.if_icmp .ge 5, 3) := by decide +kernel
theorem dX4_ownerOf_46 : decode cX4_ownerOf 46 = .ok (.iload_n 3, 1) := by decide +kernel
theorem dX4_ownerOf_47 : decode cX4_ownerOf 47 = .ok (.ireturn, 1) := by decide +kernel
theorem dX4_ownerOf_48 : decode cX4_ownerOf 48 = .ok (.iinc 3 1, 3) := by decide +kernel
theorem dX4_ownerOf_51 : decode cX4_ownerOf 51 = .ok (.goto (-47), 3) := by decide +kernel
theorem dX4_ownerOf_54 : decode cX4_ownerOf 54 = .ok (.bipush (-9), 2) := by decide +kernel
theorem dX4_ownerOf_56 : decode cX4_ownerOf 56 = .ok (.ireturn, 1) := by decide +kernel
set_option maxRecDepth 20000 in
theorem ggX4_takeText_X3_citizensIn : GoodIn wsX4_takeText wsX3_citizensIn := goodIn_r _ [7, 8, 9, 10, 11] (by decide +kernel) (by decide +kernel)
set_option maxRecDepth 20000 in
theorem gX4_takeText_X3_citizensIn_n219 : GoodIn wsX4_takeText (wsX3_citizensIn) := ggX4_takeText_X3_citizensIn
set_option maxRecDepth 20000 in
theorem ggX4_takeText_X2_at : GoodIn wsX4_takeText wsX2_at := goodIn_r _ [15, 16, 38, 39, 40, 41] (by decide +kernel) (by decide +kernel)
set_option maxRecDepth 20000 in
theorem gX4_takeText_X2_at_n186 : GoodIn wsX4_takeText (wsX2_at) := ggX4_takeText_X2_at
set_option maxRecDepth 20000 in
theorem ggX4_takeText_X3_digit : GoodIn wsX4_takeText wsX3_digit := goodIn_r _ [18] (by decide +kernel) (by decide +kernel)
set_option maxRecDepth 20000 in
theorem gX4_takeText_X3_digit_n222 : GoodIn wsX4_takeText (wsX3_digit) := ggX4_takeText_X3_digit
set_option maxRecDepth 20000 in
theorem ggX4_takeText_X4_citizen : GoodIn wsX4_takeText wsX4_citizen := goodIn_r _ [23, 1, 24, 28, 29, 30, 31, 32, 33, 34, 35, 36, 37] (by decide +kernel) (by decide +kernel)
set_option maxRecDepth 20000 in
theorem gX4_takeText_X4_citizen : GoodIn wsX4_takeText (wsV RX4 72 RX4 yX4_citizen wsX4_citizen) := goodIn_app (goodIn_of _ (by decide +kernel)) ggX4_takeText_X4_citizen
set_option maxRecDepth 20000 in
theorem ggX4_takeText_X3_tellCitizen : GoodIn wsX4_takeText wsX3_tellCitizen := goodIn_r _ [26, 12, 13, 14, 15, 16, 27, 17, 6, 18, 42, 43, 44, 45, 38, 39, 40, 41] (by decide +kernel) (by decide +kernel)
set_option maxRecDepth 20000 in
theorem gX4_takeText_X3_tellCitizen_n225 : GoodIn wsX4_takeText (wsX3_tellCitizen) := ggX4_takeText_X3_tellCitizen
theorem dX4_takeText_0 : decode cX4_takeText 0 = .ok (.aload_n 0, 1) := by decide +kernel
theorem dX4_takeText_1 : decode cX4_takeText 1 = .ok (.iload_n 3, 1) := by decide +kernel
theorem dX4_takeText_2 : decode cX4_takeText 2 = .ok (.invokestatic 219, 3) := by decide +kernel
theorem dX4_takeText_5 : decode cX4_takeText 5 = .ok (.putfield 69, 3) := by decide +kernel
theorem dX4_takeText_8 : decode cX4_takeText 8 = .ok (.aload_n 0, 1) := by decide +kernel
theorem dX4_takeText_9 : decode cX4_takeText 9 = .ok (.aload_n 1, 1) := by decide +kernel
theorem dX4_takeText_10 : decode cX4_takeText 10 = .ok (.iload_n 2, 1) := by decide +kernel
theorem dX4_takeText_11 : decode cX4_takeText 11 = .ok (.iconst 1, 1) := by decide +kernel
theorem dX4_takeText_12 : decode cX4_takeText 12 = .ok (.iadd, 1) := by decide +kernel
theorem dX4_takeText_13 : decode cX4_takeText 13 = .ok (.invokevirtual 186, 3) := by decide +kernel
theorem dX4_takeText_16 : decode cX4_takeText 16 = .ok (.invokestatic 222, 3) := by decide +kernel
theorem dX4_takeText_19 : decode cX4_takeText 19 = .ok (.putfield 96, 3) := by decide +kernel
theorem dX4_takeText_22 : decode cX4_takeText 22 = .ok (.aload_n 0, 1) := by decide +kernel
theorem dX4_takeText_23 : decode cX4_takeText 23 = .ok (.aload_n 1, 1) := by decide +kernel
theorem dX4_takeText_24 : decode cX4_takeText 24 = .ok (.iload_n 2, 1) := by decide +kernel
theorem dX4_takeText_25 : decode cX4_takeText 25 = .ok (.iconst 2, 1) := by decide +kernel
theorem dX4_takeText_26 : decode cX4_takeText 26 = .ok (.iadd, 1) := by decide +kernel
theorem dX4_takeText_27 : decode cX4_takeText 27 = .ok (.invokevirtual 186, 3) := by decide +kernel
theorem dX4_takeText_30 : decode cX4_takeText 30 = .ok (.invokestatic 222, 3) := by decide +kernel
theorem dX4_takeText_33 : decode cX4_takeText 33 = .ok (.putfield 99, 3) := by decide +kernel
theorem dX4_takeText_36 : decode cX4_takeText 36 = .ok (.aload_n 0, 1) := by decide +kernel
theorem dX4_takeText_37 : decode cX4_takeText 37 = .ok (.iconst 0, 1) := by decide +kernel
theorem dX4_takeText_38 : decode cX4_takeText 38 = .ok (.putfield 160, 3) := by decide +kernel
theorem dX4_takeText_41 : decode cX4_takeText 41 = .ok (.iconst 0, 1) := by decide +kernel
theorem dX4_takeText_42 : decode cX4_takeText 42 = .ok (.istore 4, 2) := by decide +kernel
theorem dX4_takeText_44 : decode cX4_takeText 44 = .ok (.iload 4, 2) := by decide +kernel
theorem dX4_takeText_46 : decode cX4_takeText 46 = .ok (.aload_n 0, 1) := by decide +kernel
theorem dX4_takeText_47 : decode cX4_takeText 47 = .ok (.getfield 69, 3) := by decide +kernel
theorem dX4_takeText_50 : decode cX4_takeText 50 = .ok (.if_icmp .ge 37, 3) := by decide +kernel
theorem dX4_takeText_53 : decode cX4_takeText 53 = .ok (.aload_n 0, 1) := by decide +kernel
theorem dX4_takeText_54 : decode cX4_takeText 54 = .ok (.iload 4, 2) := by decide +kernel
theorem dX4_takeText_56 : decode cX4_takeText 56 = .ok (.invokevirtual 72, 3) := by decide +kernel
theorem dX4_takeText_59 : decode cX4_takeText 59 = .ok (.astore 5, 2) := by decide +kernel
theorem dX4_takeText_61 : decode cX4_takeText 61 = .ok (.aload 5, 2) := by decide +kernel
theorem dX4_takeText_63 : decode cX4_takeText 63 = .ok (.ifnull 18, 3) := by decide +kernel
theorem dX4_takeText_66 : decode cX4_takeText 66 = .ok (.aload_n 1, 1) := by decide +kernel
theorem dX4_takeText_67 : decode cX4_takeText 67 = .ok (.iload_n 2, 1) := by decide +kernel
theorem dX4_takeText_68 : decode cX4_takeText 68 = .ok (.iconst 3, 1) := by decide +kernel
theorem dX4_takeText_69 : decode cX4_takeText 69 = .ok (.iadd, 1) := by decide +kernel
theorem dX4_takeText_70 : decode cX4_takeText 70 = .ok (.iload 4, 2) := by decide +kernel
theorem dX4_takeText_72 : decode cX4_takeText 72 = .ok (.bipush 6, 2) := by decide +kernel
theorem dX4_takeText_74 : decode cX4_takeText 74 = .ok (.imul, 1) := by decide +kernel
theorem dX4_takeText_75 : decode cX4_takeText 75 = .ok (.iadd, 1) := by decide +kernel
theorem dX4_takeText_76 : decode cX4_takeText 76 = .ok (.aload 5, 2) := by decide +kernel
theorem dX4_takeText_78 : decode cX4_takeText 78 = .ok (.invokestatic 225, 3) := by decide +kernel
theorem dX4_takeText_81 : decode cX4_takeText 81 = .ok (.iinc 4 1, 3) := by decide +kernel
theorem dX4_takeText_84 : decode cX4_takeText 84 = .ok (.goto (-40), 3) := by decide +kernel
theorem dX4_takeText_87 : decode cX4_takeText 87 = .ok (.return_, 1) := by decide +kernel
set_option maxRecDepth 20000 in
theorem ggX4_firstWrong_X2_at : GoodIn wsX4_firstWrong wsX2_at := goodIn_r _ [4, 5, 29, 30, 31, 32] (by decide +kernel) (by decide +kernel)
set_option maxRecDepth 20000 in
theorem gX4_firstWrong_X2_at_n186 : GoodIn wsX4_firstWrong (wsX2_at) := ggX4_firstWrong_X2_at
set_option maxRecDepth 20000 in
theorem ggX4_firstWrong_X4_ownerOf : GoodIn wsX4_firstWrong wsX4_ownerOf := goodIn_r _ [10, 11, 12, 13, 14, 9, 15, 16, 17, 18, 19, 20, 21, 22, 23, 24, 33, 34, 35, 36, 37, 38, 39, 40, 41, 42, 43, 44, 45, 46] (by decide +kernel) (by decide +kernel)
set_option maxRecDepth 20000 in
theorem gX4_firstWrong_X4_ownerOf : GoodIn wsX4_firstWrong (wsV RX4 229 RX4 yX4_ownerOf wsX4_ownerOf) := goodIn_app (goodIn_of _ (by decide +kernel)) ggX4_firstWrong_X4_ownerOf
set_option maxRecDepth 20000 in
theorem ggX4_firstWrong_X2_has : GoodIn wsX4_firstWrong wsX2_has := goodIn_r _ [27, 28, 1, 3, 2, 4, 5, 29, 30, 31, 32] (by decide +kernel) (by decide +kernel)
set_option maxRecDepth 20000 in
theorem gX4_firstWrong_X2_has_n232 : GoodIn wsX4_firstWrong (wsX2_has) := ggX4_firstWrong_X2_has
theorem dX4_firstWrong_0 : decode cX4_firstWrong 0 = .ok (.iconst 0, 1) := by decide +kernel
theorem dX4_firstWrong_1 : decode cX4_firstWrong 1 = .ok (.istore 4, 2) := by decide +kernel
theorem dX4_firstWrong_3 : decode cX4_firstWrong 3 = .ok (.iload 4, 2) := by decide +kernel
theorem dX4_firstWrong_5 : decode cX4_firstWrong 5 = .ok (.iload_n 3, 1) := by decide +kernel
theorem dX4_firstWrong_6 : decode cX4_firstWrong 6 = .ok (.if_icmp .ge 45, 3) := by decide +kernel
theorem dX4_firstWrong_9 : decode cX4_firstWrong 9 = .ok (.aload_n 1, 1) := by decide +kernel
theorem dX4_firstWrong_10 : decode cX4_firstWrong 10 = .ok (.iload_n 2, 1) := by decide +kernel
theorem dX4_firstWrong_11 : decode cX4_firstWrong 11 = .ok (.iload 4, 2) := by decide +kernel
theorem dX4_firstWrong_13 : decode cX4_firstWrong 13 = .ok (.iadd, 1) := by decide +kernel
theorem dX4_firstWrong_14 : decode cX4_firstWrong 14 = .ok (.invokevirtual 186, 3) := by decide +kernel
theorem dX4_firstWrong_17 : decode cX4_firstWrong 17 = .ok (.istore 5, 2) := by decide +kernel
theorem dX4_firstWrong_19 : decode cX4_firstWrong 19 = .ok (.aload_n 0, 1) := by decide +kernel
theorem dX4_firstWrong_20 : decode cX4_firstWrong 20 = .ok (.iload 5, 2) := by decide +kernel
theorem dX4_firstWrong_22 : decode cX4_firstWrong 22 = .ok (.invokevirtual 229, 3) := by decide +kernel
theorem dX4_firstWrong_25 : decode cX4_firstWrong 25 = .ok (.bipush (-9), 2) := by decide +kernel
theorem dX4_firstWrong_27 : decode cX4_firstWrong 27 = .ok (.if_icmp .eq 15, 3) := by decide +kernel
theorem dX4_firstWrong_30 : decode cX4_firstWrong 30 = .ok (.aload_n 1, 1) := by decide +kernel
theorem dX4_firstWrong_31 : decode cX4_firstWrong 31 = .ok (.iload 5, 2) := by decide +kernel
theorem dX4_firstWrong_33 : decode cX4_firstWrong 33 = .ok (.iload_n 2, 1) := by decide +kernel
theorem dX4_firstWrong_34 : decode cX4_firstWrong 34 = .ok (.iload 4, 2) := by decide +kernel
theorem dX4_firstWrong_36 : decode cX4_firstWrong 36 = .ok (.invokevirtual 232, 3) := by decide +kernel
theorem dX4_firstWrong_39 : decode cX4_firstWrong 39 = .ok (.ifCond .eq 6, 3) := by decide +kernel
theorem dX4_firstWrong_42 : decode cX4_firstWrong 42 = .ok (.iload 4, 2) := by decide +kernel
theorem dX4_firstWrong_44 : decode cX4_firstWrong 44 = .ok (.ireturn, 1) := by decide +kernel
theorem dX4_firstWrong_45 : decode cX4_firstWrong 45 = .ok (.iinc 4 1, 3) := by decide +kernel
theorem dX4_firstWrong_48 : decode cX4_firstWrong 48 = .ok (.goto (-45), 3) := by decide +kernel
theorem dX4_firstWrong_51 : decode cX4_firstWrong 51 = .ok (.bipush (-9), 2) := by decide +kernel
theorem dX4_firstWrong_53 : decode cX4_firstWrong 53 = .ok (.ireturn, 1) := by decide +kernel
set_option maxRecDepth 20000 in
theorem ggX4_rulersBy_X2_at : GoodIn wsX4_rulersBy wsX2_at := goodIn_r _ [5, 6, 35, 36, 37, 38] (by decide +kernel) (by decide +kernel)
set_option maxRecDepth 20000 in
theorem gX4_rulersBy_X2_at_n186 : GoodIn wsX4_rulersBy (wsX2_at) := ggX4_rulersBy_X2_at
set_option maxRecDepth 20000 in
theorem ggX4_rulersBy_X4_ownerOf : GoodIn wsX4_rulersBy wsX4_ownerOf := goodIn_r _ [11, 1, 12, 13, 14, 10, 15, 16, 17, 18, 19, 20, 21, 22, 23, 24, 25, 26, 27, 28, 29, 30, 31, 32, 33, 34, 39, 40, 41, 42] (by decide +kernel) (by decide +kernel)
set_option maxRecDepth 20000 in
theorem gX4_rulersBy_X4_ownerOf : GoodIn wsX4_rulersBy (wsV RX4 229 RX4 yX4_ownerOf wsX4_ownerOf) := goodIn_app (goodIn_of _ (by decide +kernel)) ggX4_rulersBy_X4_ownerOf
theorem dX4_rulersBy_0 : decode cX4_rulersBy 0 = .ok (.iconst 1, 1) := by decide +kernel
theorem dX4_rulersBy_1 : decode cX4_rulersBy 1 = .ok (.aload_n 0, 1) := by decide +kernel
theorem dX4_rulersBy_2 : decode cX4_rulersBy 2 = .ok (.getfield 69, 3) := by decide +kernel
theorem dX4_rulersBy_5 : decode cX4_rulersBy 5 = .ok (.ishl, 1) := by decide +kernel
theorem dX4_rulersBy_6 : decode cX4_rulersBy 6 = .ok (.iconst 1, 1) := by decide +kernel
theorem dX4_rulersBy_7 : decode cX4_rulersBy 7 = .ok (.isub, 1) := by decide +kernel
theorem dX4_rulersBy_8 : decode cX4_rulersBy 8 = .ok (.istore 4, 2) := by decide +kernel
theorem dX4_rulersBy_10 : decode cX4_rulersBy 10 = .ok (.iconst 0, 1) := by decide +kernel
theorem dX4_rulersBy_11 : decode cX4_rulersBy 11 = .ok (.istore 5, 2) := by decide +kernel
theorem dX4_rulersBy_13 : decode cX4_rulersBy 13 = .ok (.iload 5, 2) := by decide +kernel
theorem dX4_rulersBy_15 : decode cX4_rulersBy 15 = .ok (.iload_n 3, 1) := by decide +kernel
theorem dX4_rulersBy_16 : decode cX4_rulersBy 16 = .ok (.if_icmp .ge 41, 3) := by decide +kernel
theorem dX4_rulersBy_19 : decode cX4_rulersBy 19 = .ok (.aload_n 0, 1) := by decide +kernel
theorem dX4_rulersBy_20 : decode cX4_rulersBy 20 = .ok (.aload_n 1, 1) := by decide +kernel
theorem dX4_rulersBy_21 : decode cX4_rulersBy 21 = .ok (.iload_n 2, 1) := by decide +kernel
theorem dX4_rulersBy_22 : decode cX4_rulersBy 22 = .ok (.iload 5, 2) := by decide +kernel
theorem dX4_rulersBy_24 : decode cX4_rulersBy 24 = .ok (.iadd, 1) := by decide +kernel
theorem dX4_rulersBy_25 : decode cX4_rulersBy 25 = .ok (.invokevirtual 186, 3) := by decide +kernel
theorem dX4_rulersBy_28 : decode cX4_rulersBy 28 = .ok (.invokevirtual 229, 3) := by decide +kernel
theorem dX4_rulersBy_31 : decode cX4_rulersBy 31 = .ok (.istore 6, 2) := by decide +kernel
theorem dX4_rulersBy_33 : decode cX4_rulersBy 33 = .ok (.iload 6, 2) := by decide +kernel
theorem dX4_rulersBy_35 : decode cX4_rulersBy 35 = .ok (.bipush (-9), 2) := by decide +kernel
theorem dX4_rulersBy_37 : decode cX4_rulersBy 37 = .ok (.if_icmp .eq 14, 3) := by decide +kernel
theorem dX4_rulersBy_40 : decode cX4_rulersBy 40 = .ok (.iload 4, 2) := by decide +kernel
theorem dX4_rulersBy_42 : decode cX4_rulersBy 42 = .ok (.iconst 1, 1) := by decide +kernel
theorem dX4_rulersBy_43 : decode cX4_rulersBy 43 = .ok (.iload 6, 2) := by decide +kernel
theorem dX4_rulersBy_45 : decode cX4_rulersBy 45 = .ok (.ishl, 1) := by decide +kernel
theorem dX4_rulersBy_46 : decode cX4_rulersBy 46 = .ok (.iconst (-1), 1) := by decide +kernel
theorem dX4_rulersBy_47 : decode cX4_rulersBy 47 = .ok (.ixor, 1) := by decide +kernel
theorem dX4_rulersBy_48 : decode cX4_rulersBy 48 = .ok (.iand, 1) := by decide +kernel
theorem dX4_rulersBy_49 : decode cX4_rulersBy 49 = .ok (.istore 4, 2) := by decide +kernel
theorem dX4_rulersBy_51 : decode cX4_rulersBy 51 = .ok (.iinc 5 1, 3) := by decide +kernel
theorem dX4_rulersBy_54 : decode cX4_rulersBy 54 = .ok (.goto (-41), 3) := by decide +kernel
theorem dX4_rulersBy_57 : decode cX4_rulersBy 57 = .ok (.iload 4, 2) := by decide +kernel
theorem dX4_rulersBy_59 : decode cX4_rulersBy 59 = .ok (.ireturn, 1) := by decide +kernel
set_option maxRecDepth 20000 in
theorem ggX4_fillDrum_X1_empty : GoodIn wsX4_fillDrum wsX1_empty := goodIn_r _ [7, 8, 9, 10, 11, 12, 13, 14, 15, 16, 17, 18, 19, 20, 21, 5, 22, 23, 62, 63, 64, 65, 66, 67, 68] (by decide +kernel) (by decide +kernel)
set_option maxRecDepth 20000 in
theorem gX4_fillDrum_X1_empty_n236 : GoodIn wsX4_fillDrum (wsX1_empty) := ggX4_fillDrum_X1_empty
set_option maxRecDepth 20000 in
theorem ggX4_fillDrum_X4_citizen : GoodIn wsX4_fillDrum wsX4_citizen := goodIn_r _ [28, 2, 29, 48, 49, 50, 51, 52, 53, 54, 55, 56, 57] (by decide +kernel) (by decide +kernel)
set_option maxRecDepth 20000 in
theorem gX4_fillDrum_X4_citizen : GoodIn wsX4_fillDrum (wsV RX4 72 RX4 yX4_citizen wsX4_citizen) := goodIn_app (goodIn_of _ (by decide +kernel)) ggX4_fillDrum_X4_citizen
set_option maxRecDepth 20000 in
theorem ggX4_fillDrum_X0_slips : GoodIn wsX4_fillDrum wsX0_slips := goodIn_r _ [33, 34, 35, 36, 27, 37, 58, 59, 60, 61] (by decide +kernel) (by decide +kernel)
set_option maxRecDepth 20000 in
theorem gX4_fillDrum_X0_slips_n89 : GoodIn wsX4_fillDrum (wsX0_slips) := ggX4_fillDrum_X0_slips
set_option maxRecDepth 20000 in
theorem ggX4_fillDrum_X1_setSlips : GoodIn wsX4_fillDrum wsX1_setSlips := goodIn_r _ [40, 18, 17, 41, 42, 43, 5, 44, 62, 63, 64, 65, 66, 67, 68] (by decide +kernel) (by decide +kernel)
set_option maxRecDepth 20000 in
theorem gX4_fillDrum_X1_setSlips_n140 : GoodIn wsX4_fillDrum (wsX1_setSlips) := ggX4_fillDrum_X1_setSlips
set_option maxRecDepth 20000 in
theorem ggX4_fillDrum_X1_setWishes : GoodIn wsX4_fillDrum wsX1_setWishes := goodIn_r _ [47, 16, 62, 63, 64, 65, 66, 67, 68] (by decide +kernel) (by decide +kernel)
set_option maxRecDepth 20000 in
theorem gX4_fillDrum_X1_setWishes_n156 : GoodIn wsX4_fillDrum (wsX1_setWishes) := ggX4_fillDrum_X1_setWishes
theorem dX4_fillDrum_0 : decode cX4_fillDrum 0 = .ok (.aload_n 0, 1) := by decide +kernel
theorem dX4_fillDrum_1 : decode cX4_fillDrum 1 = .ok (.getfield 30, 3) := by decide +kernel
theorem dX4_fillDrum_4 : decode cX4_fillDrum 4 = .ok (.aload_n 0, 1) := by decide +kernel
theorem dX4_fillDrum_5 : decode cX4_fillDrum 5 = .ok (.getfield 69, 3) := by decide +kernel
theorem dX4_fillDrum_8 : decode cX4_fillDrum 8 = .ok (.aload_n 0, 1) := by decide +kernel
theorem dX4_fillDrum_9 : decode cX4_fillDrum 9 = .ok (.getfield 96, 3) := by decide +kernel
theorem dX4_fillDrum_12 : decode cX4_fillDrum 12 = .ok (.invokevirtual 236, 3) := by decide +kernel
theorem dX4_fillDrum_15 : decode cX4_fillDrum 15 = .ok (.iconst 0, 1) := by decide +kernel
theorem dX4_fillDrum_16 : decode cX4_fillDrum 16 = .ok (.istore_n 1, 1) := by decide +kernel
theorem dX4_fillDrum_17 : decode cX4_fillDrum 17 = .ok (.iload_n 1, 1) := by decide +kernel
theorem dX4_fillDrum_18 : decode cX4_fillDrum 18 = .ok (.aload_n 0, 1) := by decide +kernel
theorem dX4_fillDrum_19 : decode cX4_fillDrum 19 = .ok (.getfield 69, 3) := by decide +kernel
theorem dX4_fillDrum_22 : decode cX4_fillDrum 22 = .ok (.if_icmp .ge 43, 3) := by decide +kernel
theorem dX4_fillDrum_25 : decode cX4_fillDrum 25 = .ok (.aload_n 0, 1) := by decide +kernel
theorem dX4_fillDrum_26 : decode cX4_fillDrum 26 = .ok (.iload_n 1, 1) := by decide +kernel
theorem dX4_fillDrum_27 : decode cX4_fillDrum 27 = .ok (.invokevirtual 72, 3) := by decide +kernel
theorem dX4_fillDrum_30 : decode cX4_fillDrum 30 = .ok (.astore_n 2, 1) := by decide +kernel
theorem dX4_fillDrum_31 : decode cX4_fillDrum 31 = .ok (.aload_n 2, 1) := by decide +kernel
theorem dX4_fillDrum_32 : decode cX4_fillDrum 32 = .ok (.ifnull 27, 3) := by decide +kernel
theorem dX4_fillDrum_35 : decode cX4_fillDrum 35 = .ok (.aload_n 0, 1) := by decide +kernel
theorem dX4_fillDrum_36 : decode cX4_fillDrum 36 = .ok (.getfield 30, 3) := by decide +kernel
theorem dX4_fillDrum_39 : decode cX4_fillDrum 39 = .ok (.iload_n 1, 1) := by decide +kernel
theorem dX4_fillDrum_40 : decode cX4_fillDrum 40 = .ok (.aload_n 2, 1) := by decide +kernel
theorem dX4_fillDrum_41 : decode cX4_fillDrum 41 = .ok (.invokevirtual 89, 3) := by decide +kernel
theorem dX4_fillDrum_44 : decode cX4_fillDrum 44 = .ok (.invokevirtual 140, 3) := by decide +kernel
theorem dX4_fillDrum_47 : decode cX4_fillDrum 47 = .ok (.aload_n 0, 1) := by decide +kernel
theorem dX4_fillDrum_48 : decode cX4_fillDrum 48 = .ok (.getfield 30, 3) := by decide +kernel
theorem dX4_fillDrum_51 : decode cX4_fillDrum 51 = .ok (.iload_n 1, 1) := by decide +kernel
theorem dX4_fillDrum_52 : decode cX4_fillDrum 52 = .ok (.aload_n 2, 1) := by decide +kernel
theorem dX4_fillDrum_53 : decode cX4_fillDrum 53 = .ok (.getfield 85, 3) := by decide +kernel
theorem dX4_fillDrum_56 : decode cX4_fillDrum 56 = .ok (.invokevirtual 156, 3) := by decide +kernel
theorem dX4_fillDrum_59 : decode cX4_fillDrum 59 = .ok (.iinc 1 1, 3) := by decide +kernel
theorem dX4_fillDrum_62 : decode cX4_fillDrum 62 = .ok (.goto (-45), 3) := by decide +kernel
theorem dX4_fillDrum_65 : decode cX4_fillDrum 65 = .ok (.return_, 1) := by decide +kernel
set_option maxRecDepth 20000 in
theorem ggX4_allReadingsCanBe_X1_canLeaveJust : GoodIn wsX4_allReadingsCanBe wsX1_canLeaveJust := goodIn_r _ [7, 8, 9, 10, 11, 5, 12, 13, 14, 15, 16, 17, 18, 19, 20, 21, 22, 23, 24, 25, 26, 27, 28, 29, 30, 31, 32, 33, 34, 45, 46, 47, 48, 49, 50, 51] (by decide +kernel) (by decide +kernel)
set_option maxRecDepth 20000 in
theorem gX4_allReadingsCanBe_X1_canLeaveJust_n239 : GoodIn wsX4_allReadingsCanBe (wsX1_canLeaveJust) := ggX4_allReadingsCanBe_X1_canLeaveJust
theorem dX4_allReadingsCanBe_0 : decode cX4_allReadingsCanBe 0 = .ok (.iconst 0, 1) := by decide +kernel
theorem dX4_allReadingsCanBe_1 : decode cX4_allReadingsCanBe 1 = .ok (.istore_n 1, 1) := by decide +kernel
theorem dX4_allReadingsCanBe_2 : decode cX4_allReadingsCanBe 2 = .ok (.iload_n 1, 1) := by decide +kernel
theorem dX4_allReadingsCanBe_3 : decode cX4_allReadingsCanBe 3 = .ok (.aload_n 0, 1) := by decide +kernel
theorem dX4_allReadingsCanBe_4 : decode cX4_allReadingsCanBe 4 = .ok (.getfield 160, 3) := by decide +kernel
theorem dX4_allReadingsCanBe_7 : decode cX4_allReadingsCanBe 7 = .ok (.if_icmp .ge 36, 3) := by decide +kernel
theorem dX4_allReadingsCanBe_10 : decode cX4_allReadingsCanBe 10 = .ok (.iload_n 1, 1) := by decide +kernel
theorem dX4_allReadingsCanBe_11 : decode cX4_allReadingsCanBe 11 = .ok (.aload_n 0, 1) := by decide +kernel
theorem dX4_allReadingsCanBe_12 : decode cX4_allReadingsCanBe 12 = .ok (.getfield 17, 3) := by decide +kernel
theorem dX4_allReadingsCanBe_15 : decode cX4_allReadingsCanBe 15 = .ok (.arraylength, 1) := by decide +kernel
theorem dX4_allReadingsCanBe_16 : decode cX4_allReadingsCanBe 16 = .ok (.if_icmp .ge 27, 3) := by decide +kernel
theorem dX4_allReadingsCanBe_19 : decode cX4_allReadingsCanBe 19 = .ok (.aload_n 0, 1) := by decide +kernel
theorem dX4_allReadingsCanBe_20 : decode cX4_allReadingsCanBe 20 = .ok (.getfield 30, 3) := by decide +kernel
theorem dX4_allReadingsCanBe_23 : decode cX4_allReadingsCanBe 23 = .ok (.aload_n 0, 1) := by decide +kernel
theorem dX4_allReadingsCanBe_24 : decode cX4_allReadingsCanBe 24 = .ok (.getfield 17, 3) := by decide +kernel
theorem dX4_allReadingsCanBe_27 : decode cX4_allReadingsCanBe 27 = .ok (.iload_n 1, 1) := by decide +kernel
theorem dX4_allReadingsCanBe_28 : decode cX4_allReadingsCanBe 28 = .ok (.iaload, 1) := by decide +kernel
theorem dX4_allReadingsCanBe_29 : decode cX4_allReadingsCanBe 29 = .ok (.invokevirtual 239, 3) := by decide +kernel
theorem dX4_allReadingsCanBe_32 : decode cX4_allReadingsCanBe 32 = .ok (.ifCond .ne 5, 3) := by decide +kernel
theorem dX4_allReadingsCanBe_35 : decode cX4_allReadingsCanBe 35 = .ok (.iconst 0, 1) := by decide +kernel
theorem dX4_allReadingsCanBe_36 : decode cX4_allReadingsCanBe 36 = .ok (.ireturn, 1) := by decide +kernel
theorem dX4_allReadingsCanBe_37 : decode cX4_allReadingsCanBe 37 = .ok (.iinc 1 1, 3) := by decide +kernel
theorem dX4_allReadingsCanBe_40 : decode cX4_allReadingsCanBe 40 = .ok (.goto (-38), 3) := by decide +kernel
theorem dX4_allReadingsCanBe_43 : decode cX4_allReadingsCanBe 43 = .ok (.iconst 1, 1) := by decide +kernel
theorem dX4_allReadingsCanBe_44 : decode cX4_allReadingsCanBe 44 = .ok (.ireturn, 1) := by decide +kernel
theorem dX4_partOf_0 : decode cX4_partOf 0 = .ok (.lload_n 0, 1) := by decide +kernel
theorem dX4_partOf_1 : decode cX4_partOf 1 = .ok (.lstore 5, 2) := by decide +kernel
theorem dX4_partOf_3 : decode cX4_partOf 3 = .ok (.lload_n 2, 1) := by decide +kernel
theorem dX4_partOf_4 : decode cX4_partOf 4 = .ok (.lstore 7, 2) := by decide +kernel
theorem dX4_partOf_6 : decode cX4_partOf 6 = .ok (.iconst 0, 1) := by decide +kernel
theorem dX4_partOf_7 : decode cX4_partOf 7 = .ok (.istore 9, 2) := by decide +kernel
theorem dX4_partOf_9 : decode cX4_partOf 9 = .ok (.iload 9, 2) := by decide +kernel
theorem dX4_partOf_11 : decode cX4_partOf 11 = .ok (.bipush 100, 2) := by decide +kernel
theorem dX4_partOf_13 : decode cX4_partOf 13 = .ok (.if_icmp .ge 31, 3) := by decide +kernel
theorem dX4_partOf_16 : decode cX4_partOf 16 = .ok (.lload 7, 2) := by decide +kernel
theorem dX4_partOf_18 : decode cX4_partOf 18 = .ok (.lconst 0, 1) := by decide +kernel
theorem dX4_partOf_19 : decode cX4_partOf 19 = .ok (.lcmp, 1) := by decide +kernel
theorem dX4_partOf_20 : decode cX4_partOf 20 = .ok (.ifCond .eq 24, 3) := by decide +kernel
theorem dX4_partOf_23 : decode cX4_partOf 23 = .ok (.lload 5, 2) := by decide +kernel
theorem dX4_partOf_25 : decode cX4_partOf 25 = .ok (.lload 7, 2) := by decide +kernel
theorem dX4_partOf_27 : decode cX4_partOf 27 = .ok (.lrem, 1) := by decide +kernel
theorem dX4_partOf_28 : decode cX4_partOf 28 = .ok (.lstore 10, 2) := by decide +kernel
theorem dX4_partOf_30 : decode cX4_partOf 30 = .ok (.lload 7, 2) := by decide +kernel
theorem dX4_partOf_32 : decode cX4_partOf 32 = .ok (.lstore 5, 2) := by decide +kernel
theorem dX4_partOf_34 : decode cX4_partOf 34 = .ok (.lload 10, 2) := by decide +kernel
theorem dX4_partOf_36 : decode cX4_partOf 36 = .ok (.lstore 7, 2) := by decide +kernel
theorem dX4_partOf_38 : decode cX4_partOf 38 = .ok (.iinc 9 1, 3) := by decide +kernel
theorem dX4_partOf_41 : decode cX4_partOf 41 = .ok (.goto (-32), 3) := by decide +kernel
theorem dX4_partOf_44 : decode cX4_partOf 44 = .ok (.iload 4, 2) := by decide +kernel
theorem dX4_partOf_46 : decode cX4_partOf 46 = .ok (.ifCond .ne 7, 3) := by decide +kernel
theorem dX4_partOf_49 : decode cX4_partOf 49 = .ok (.lload_n 0, 1) := by decide +kernel
theorem dX4_partOf_50 : decode cX4_partOf 50 = .ok (.goto 4, 3) := by decide +kernel
theorem dX4_partOf_53 : decode cX4_partOf 53 = .ok (.lload_n 2, 1) := by decide +kernel
theorem dX4_partOf_54 : decode cX4_partOf 54 = .ok (.lstore 9, 2) := by decide +kernel
theorem dX4_partOf_56 : decode cX4_partOf 56 = .ok (.lload 5, 2) := by decide +kernel
theorem dX4_partOf_58 : decode cX4_partOf 58 = .ok (.lconst 0, 1) := by decide +kernel
theorem dX4_partOf_59 : decode cX4_partOf 59 = .ok (.lcmp, 1) := by decide +kernel
theorem dX4_partOf_60 : decode cX4_partOf 60 = .ok (.ifCond .ne 8, 3) := by decide +kernel
theorem dX4_partOf_63 : decode cX4_partOf 63 = .ok (.lload 9, 2) := by decide +kernel
theorem dX4_partOf_65 : decode cX4_partOf 65 = .ok (.goto 8, 3) := by decide +kernel
theorem dX4_partOf_68 : decode cX4_partOf 68 = .ok (.lload 9, 2) := by decide +kernel
theorem dX4_partOf_70 : decode cX4_partOf 70 = .ok (.lload 5, 2) := by decide +kernel
theorem dX4_partOf_72 : decode cX4_partOf 72 = .ok (.ldiv, 1) := by decide +kernel
theorem dX4_partOf_73 : decode cX4_partOf 73 = .ok (.lreturn, 1) := by decide +kernel
theorem dX4_isMore_0 : decode cX4_isMore 0 = .ok (.lload_n 0, 1) := by decide +kernel
theorem dX4_isMore_1 : decode cX4_isMore 1 = .ok (.lload 6, 2) := by decide +kernel
theorem dX4_isMore_3 : decode cX4_isMore 3 = .ok (.lmul, 1) := by decide +kernel
theorem dX4_isMore_4 : decode cX4_isMore 4 = .ok (.ldc2_w 117, 3) := by decide +kernel
theorem dX4_isMore_7 : decode cX4_isMore 7 = .ok (.lxor, 1) := by decide +kernel
theorem dX4_isMore_8 : decode cX4_isMore 8 = .ok (.lload 4, 2) := by decide +kernel
theorem dX4_isMore_10 : decode cX4_isMore 10 = .ok (.lload_n 2, 1) := by decide +kernel
theorem dX4_isMore_11 : decode cX4_isMore 11 = .ok (.lmul, 1) := by decide +kernel
theorem dX4_isMore_12 : decode cX4_isMore 12 = .ok (.ldc2_w 117, 3) := by decide +kernel
theorem dX4_isMore_15 : decode cX4_isMore 15 = .ok (.lxor, 1) := by decide +kernel
theorem dX4_isMore_16 : decode cX4_isMore 16 = .ok (.lcmp, 1) := by decide +kernel
theorem dX4_isMore_17 : decode cX4_isMore 17 = .ok (.ifCond .le 7, 3) := by decide +kernel
theorem dX4_isMore_20 : decode cX4_isMore 20 = .ok (.iconst 1, 1) := by decide +kernel
theorem dX4_isMore_21 : decode cX4_isMore 21 = .ok (.goto 4, 3) := by decide +kernel
theorem dX4_isMore_24 : decode cX4_isMore 24 = .ok (.iconst 0, 1) := by decide +kernel
theorem dX4_isMore_25 : decode cX4_isMore 25 = .ok (.ireturn, 1) := by decide +kernel
theorem dX4_leaveInTrace_0 : decode cX4_leaveInTrace 0 = .ok (.aload_n 0, 1) := by decide +kernel
theorem dX4_leaveInTrace_1 : decode cX4_leaveInTrace 1 = .ok (.bipush 31, 2) := by decide +kernel
theorem dX4_leaveInTrace_3 : decode cX4_leaveInTrace 3 = .ok (.aload_n 0, 1) := by decide +kernel
theorem dX4_leaveInTrace_4 : decode cX4_leaveInTrace 4 = .ok (.getfield 213, 3) := by decide +kernel
theorem dX4_leaveInTrace_7 : decode cX4_leaveInTrace 7 = .ok (.imul, 1) := by decide +kernel
theorem dX4_leaveInTrace_8 : decode cX4_leaveInTrace 8 = .ok (.iload_n 1, 1) := by decide +kernel
theorem dX4_leaveInTrace_9 : decode cX4_leaveInTrace 9 = .ok (.iadd, 1) := by decide +kernel
theorem dX4_leaveInTrace_10 : decode cX4_leaveInTrace 10 = .ok (.putfield 213, 3) := by decide +kernel
theorem dX4_leaveInTrace_13 : decode cX4_leaveInTrace 13 = .ok (.return_, 1) := by decide +kernel
set_option maxRecDepth 20000 in
theorem ggX4_citizenTells_X4_leaveInTrace : GoodIn wsX4_citizenTells wsX4_leaveInTrace := goodIn_r _ [5, 6, 7, 8, 9, 10, 11, 12, 13, 14, 15, 16] (by decide +kernel) (by decide +kernel)
set_option maxRecDepth 20000 in
theorem gX4_citizenTells_X4_leaveInTrace : GoodIn wsX4_citizenTells (wsV RX4 210 RX4 yX4_leaveInTrace wsX4_leaveInTrace) := goodIn_app (goodIn_of _ (by decide +kernel)) ggX4_citizenTells_X4_leaveInTrace
theorem dX4_citizenTells_0 : decode cX4_citizenTells 0 = .ok (.aload_n 0, 1) := by decide +kernel
theorem dX4_citizenTells_1 : decode cX4_citizenTells 1 = .ok (.iconst 1, 1) := by decide +kernel
theorem dX4_citizenTells_2 : decode cX4_citizenTells 2 = .ok (.invokevirtual 210, 3) := by decide +kernel
theorem dX4_citizenTells_5 : decode cX4_citizenTells 5 = .ok (.iload_n 1, 1) := by decide +kernel
theorem dX4_citizenTells_6 : decode cX4_citizenTells 6 = .ok (.ireturn, 1) := by decide +kernel
set_option maxRecDepth 20000 in
theorem ggX4_richTells_X4_leaveInTrace : GoodIn wsX4_richTells wsX4_leaveInTrace := goodIn_r _ [5, 6, 11, 12, 13, 14, 15, 16, 17, 18, 19, 20] (by decide +kernel) (by decide +kernel)
set_option maxRecDepth 20000 in
theorem gX4_richTells_X4_leaveInTrace : GoodIn wsX4_richTells (wsV RX4 210 RX4 yX4_leaveInTrace wsX4_leaveInTrace) := goodIn_app (goodIn_of _ (by decide +kernel)) ggX4_richTells_X4_leaveInTrace
set_option maxRecDepth 20000 in
theorem ggX4_richTells_X4_citizenTells : GoodIn wsX4_richTells wsX4_citizenTells := goodIn_r _ [10, 1, 2, 3, 4, 5, 6, 11, 12, 13, 14, 15, 16, 17, 18, 19, 20] (by decide +kernel) (by decide +kernel)
set_option maxRecDepth 20000 in
theorem gX4_richTells_X4_citizenTells : GoodIn wsX4_richTells (wsV RX4 207 RX4 yX4_citizenTells wsX4_citizenTells) := goodIn_app (goodIn_of _ (by decide +kernel)) ggX4_richTells_X4_citizenTells
theorem dX4_richTells_0 : decode cX4_richTells 0 = .ok (.aload_n 0, 1) := by decide +kernel
theorem dX4_richTells_1 : decode cX4_richTells 1 = .ok (.iconst 2, 1) := by decide +kernel
theorem dX4_richTells_2 : decode cX4_richTells 2 = .ok (.invokevirtual 210, 3) := by decide +kernel
theorem dX4_richTells_5 : decode cX4_richTells 5 = .ok (.aload_n 0, 1) := by decide +kernel
theorem dX4_richTells_6 : decode cX4_richTells 6 = .ok (.iload_n 1, 1) := by decide +kernel
theorem dX4_richTells_7 : decode cX4_richTells 7 = .ok (.invokevirtual 207, 3) := by decide +kernel
theorem dX4_richTells_10 : decode cX4_richTells 10 = .ok (.bipush 100, 2) := by decide +kernel
theorem dX4_richTells_12 : decode cX4_richTells 12 = .ok (.iadd, 1) := by decide +kernel
theorem dX4_richTells_13 : decode cX4_richTells 13 = .ok (.ireturn, 1) := by decide +kernel
set_option maxRecDepth 20000 in
theorem ggX4_miserTells_X4_leaveInTrace : GoodIn wsX4_miserTells wsX4_leaveInTrace := goodIn_r _ [5, 6, 15, 16, 17, 18, 19, 20, 21, 22, 23, 24] (by decide +kernel) (by decide +kernel)
set_option maxRecDepth 20000 in
theorem gX4_miserTells_X4_leaveInTrace : GoodIn wsX4_miserTells (wsV RX4 210 RX4 yX4_leaveInTrace wsX4_leaveInTrace) := goodIn_app (goodIn_of _ (by decide +kernel)) ggX4_miserTells_X4_leaveInTrace
set_option maxRecDepth 20000 in
theorem ggX4_miserTells_X4_richTells : GoodIn wsX4_miserTells wsX4_richTells := goodIn_r _ [10, 1, 2, 3, 4, 5, 6, 11, 12, 13, 14, 15, 16, 17, 18, 19, 20, 21, 22, 23, 24] (by decide +kernel) (by decide +kernel)
set_option maxRecDepth 20000 in
theorem gX4_miserTells_X4_richTells : GoodIn wsX4_miserTells (wsV RX4 204 RX4 yX4_richTells wsX4_richTells) := goodIn_app (goodIn_of _ (by decide +kernel)) ggX4_miserTells_X4_richTells
set_option maxRecDepth 20000 in
theorem ggX4_miserTells_X4_citizenTells : GoodIn wsX4_miserTells wsX4_citizenTells := goodIn_r _ [14, 1, 2, 3, 4, 5, 6, 15, 16, 17, 18, 19, 20, 21, 22, 23, 24] (by decide +kernel) (by decide +kernel)
set_option maxRecDepth 20000 in
theorem gX4_miserTells_X4_citizenTells : GoodIn wsX4_miserTells (wsV RX4 207 RX4 yX4_citizenTells wsX4_citizenTells) := goodIn_app (goodIn_of _ (by decide +kernel)) ggX4_miserTells_X4_citizenTells
theorem dX4_miserTells_0 : decode cX4_miserTells 0 = .ok (.aload_n 0, 1) := by decide +kernel
theorem dX4_miserTells_1 : decode cX4_miserTells 1 = .ok (.iconst 3, 1) := by decide +kernel
theorem dX4_miserTells_2 : decode cX4_miserTells 2 = .ok (.invokevirtual 210, 3) := by decide +kernel
theorem dX4_miserTells_5 : decode cX4_miserTells 5 = .ok (.aload_n 0, 1) := by decide +kernel
theorem dX4_miserTells_6 : decode cX4_miserTells 6 = .ok (.iload_n 1, 1) := by decide +kernel
theorem dX4_miserTells_7 : decode cX4_miserTells 7 = .ok (.invokevirtual 204, 3) := by decide +kernel
theorem dX4_miserTells_10 : decode cX4_miserTells 10 = .ok (.istore_n 2, 1) := by decide +kernel
theorem dX4_miserTells_11 : decode cX4_miserTells 11 = .ok (.iload_n 2, 1) := by decide +kernel
theorem dX4_miserTells_12 : decode cX4_miserTells 12 = .ok (.aload_n 0, 1) := by decide +kernel
theorem dX4_miserTells_13 : decode cX4_miserTells 13 = .ok (.iload_n 1, 1) := by decide +kernel
theorem dX4_miserTells_14 : decode cX4_miserTells 14 = .ok (.invokevirtual 207, 3) := by decide +kernel
theorem dX4_miserTells_17 : decode cX4_miserTells 17 = .ok (.iadd, 1) := by decide +kernel
theorem dX4_miserTells_18 : decode cX4_miserTells 18 = .ok (.ireturn, 1) := by decide +kernel
end
section
theorem dX5_init_0 : decode cX5_init 0 = .ok (.aload_n 0, 1) := by decide +kernel
theorem dX5_init_1 : decode cX5_init 1 = .ok (.invokespecial 1, 3) := by decide +kernel
theorem dX5_init_4 : decode cX5_init 4 = .ok (.aload_n 0, 1) := by decide +kernel
theorem dX5_init_5 : decode cX5_init 5 = .ok (.bipush 6, 2) := by decide +kernel
theorem dX5_init_7 : decode cX5_init 7 = .ok (.newarray .int, 2) := by decide +kernel
theorem dX5_init_9 : decode cX5_init 9 = .ok (.putfield 7, 3) := by decide +kernel
theorem dX5_init_12 : decode cX5_init 12 = .ok (.aload_n 0, 1) := by decide +kernel
theorem dX5_init_13 : decode cX5_init 13 = .ok (.bipush 6, 2) := by decide +kernel
theorem dX5_init_15 : decode cX5_init 15 = .ok (.newarray .int, 2) := by decide +kernel
theorem dX5_init_17 : decode cX5_init 17 = .ok (.putfield 13, 3) := by decide +kernel
theorem dX5_init_20 : decode cX5_init 20 = .ok (.aload_n 0, 1) := by decide +kernel
theorem dX5_init_21 : decode cX5_init 21 = .ok (.bipush 6, 2) := by decide +kernel
theorem dX5_init_23 : decode cX5_init 23 = .ok (.newarray .int, 2) := by decide +kernel
theorem dX5_init_25 : decode cX5_init 25 = .ok (.putfield 16, 3) := by decide +kernel
theorem dX5_init_28 : decode cX5_init 28 = .ok (.aload_n 0, 1) := by decide +kernel
theorem dX5_init_29 : decode cX5_init 29 = .ok (.bipush 6, 2) := by decide +kernel
theorem dX5_init_31 : decode cX5_init 31 = .ok (.newarray .int, 2) := by decide +kernel
theorem dX5_init_33 : decode cX5_init 33 = .ok (.putfield 19, 3) := by decide +kernel
theorem dX5_init_36 : decode cX5_init 36 = .ok (.aload_n 0, 1) := by decide +kernel
theorem dX5_init_37 : decode cX5_init 37 = .ok (.bipush 6, 2) := by decide +kernel
theorem dX5_init_39 : decode cX5_init 39 = .ok (.newarray .int, 2) := by decide +kernel
theorem dX5_init_41 : decode cX5_init 41 = .ok (.putfield 22, 3) := by decide +kernel
theorem dX5_init_44 : decode cX5_init 44 = .ok (.aload_n 0, 1) := by decide +kernel
theorem dX5_init_45 : decode cX5_init 45 = .ok (.bipush 6, 2) := by decide +kernel
theorem dX5_init_47 : decode cX5_init 47 = .ok (.newarray .int, 2) := by decide +kernel
theorem dX5_init_49 : decode cX5_init 49 = .ok (.putfield 25, 3) := by decide +kernel
theorem dX5_init_52 : decode cX5_init 52 = .ok (.aload_n 0, 1) := by decide +kernel
theorem dX5_init_53 : decode cX5_init 53 = .ok (.bipush 8, 2) := by decide +kernel
theorem dX5_init_55 : decode cX5_init 55 = .ok (.newarray .int, 2) := by decide +kernel
theorem dX5_init_57 : decode cX5_init 57 = .ok (.putfield 28, 3) := by decide +kernel
theorem dX5_init_60 : decode cX5_init 60 = .ok (.aload_n 0, 1) := by decide +kernel
theorem dX5_init_61 : decode cX5_init 61 = .ok (.iconst 4, 1) := by decide +kernel
theorem dX5_init_62 : decode cX5_init 62 = .ok (.newarray .int, 2) := by decide +kernel
theorem dX5_init_64 : decode cX5_init 64 = .ok (.putfield 31, 3) := by decide +kernel
theorem dX5_init_67 : decode cX5_init 67 = .ok (.aload_n 0, 1) := by decide +kernel
theorem dX5_init_68 : decode cX5_init 68 = .ok (.iconst 4, 1) := by decide +kernel
theorem dX5_init_69 : decode cX5_init 69 = .ok (.newarray .int, 2) := by decide +kernel
theorem dX5_init_71 : decode cX5_init 71 = .ok (.putfield 34, 3) := by decide +kernel
theorem dX5_init_74 : decode cX5_init 74 = .ok (.aload_n 0, 1) := by decide +kernel
theorem dX5_init_75 : decode cX5_init 75 = .ok (.sipush 240, 3) := by decide +kernel
theorem dX5_init_78 : decode cX5_init 78 = .ok (.newarray .int, 2) := by decide +kernel
theorem dX5_init_80 : decode cX5_init 80 = .ok (.putfield 37, 3) := by decide +kernel
theorem dX5_init_83 : decode cX5_init 83 = .ok (.aload_n 0, 1) := by decide +kernel
theorem dX5_init_84 : decode cX5_init 84 = .ok (.bipush 60, 2) := by decide +kernel
theorem dX5_init_86 : decode cX5_init 86 = .ok (.newarray .int, 2) := by decide +kernel
theorem dX5_init_88 : decode cX5_init 88 = .ok (.putfield 40, 3) := by decide +kernel
theorem dX5_init_91 : decode cX5_init 91 = .ok (.iconst 0, 1) := by decide +kernel
theorem dX5_init_92 : decode cX5_init 92 = .ok (.istore_n 1, 1) := by decide +kernel
theorem dX5_init_93 : decode cX5_init 93 = .ok (.iload_n 1, 1) := by decide +kernel
theorem dX5_init_94 : decode cX5_init 94 = .ok (.iconst 4, 1) := by decide +kernel
theorem dX5_init_95 : decode cX5_init 95 = .ok (.if_icmp .ge 16, 3) := by decide +kernel
theorem dX5_init_98 : decode cX5_init 98 = .ok (.aload_n 0, 1) := by decide +kernel
theorem dX5_init_99 : decode cX5_init 99 = .ok (.getfield 31, 3) := by decide +kernel
theorem dX5_init_102 : decode cX5_init 102 = .ok (.iload_n 1, 1) := by decide +kernel
theorem dX5_init_103 : decode cX5_init 103 = .ok (.iconst (-1), 1) := by decide +kernel
theorem dX5_init_104 : decode cX5_init 104 = .ok (.iastore, 1) := by decide +kernel
theorem dX5_init_105 : decode cX5_init 105 = .ok (.iinc 1 1, 3) := by decide +kernel
theorem dX5_init_108 : decode cX5_init 108 = .ok (.goto (-15), 3) := by decide +kernel
theorem dX5_init_111 : decode cX5_init 111 = .ok (.return_, 1) := by decide +kernel
theorem dX5_in_0 : decode cX5_in 0 = .ok (.lload_n 0, 1) := by decide +kernel
theorem dX5_in_1 : decode cX5_in 1 = .ok (.lload_n 2, 1) := by decide +kernel
theorem dX5_in_2 : decode cX5_in 2 = .ok (.lcmp, 1) := by decide +kernel
theorem dX5_in_3 : decode cX5_in 3 = .ok (.ifCond .lt 14, 3) := by decide +kernel
theorem dX5_in_6 : decode cX5_in 6 = .ok (.lload_n 0, 1) := by decide +kernel
theorem dX5_in_7 : decode cX5_in 7 = .ok (.lload 4, 2) := by decide +kernel
theorem dX5_in_9 : decode cX5_in 9 = .ok (.lcmp, 1) := by decide +kernel
theorem dX5_in_10 : decode cX5_in 10 = .ok (.ifCond .gt 7, 3) := by decide +kernel
theorem dX5_in_13 : decode cX5_in 13 = .ok (.iconst 1, 1) := by decide +kernel
theorem dX5_in_14 : decode cX5_in 14 = .ok (.goto 4, 3) := by decide +kernel
theorem dX5_in_17 : decode cX5_in 17 = .ok (.iconst 0, 1) := by decide +kernel
theorem dX5_in_18 : decode cX5_in 18 = .ok (.ireturn, 1) := by decide +kernel
theorem dX5_lost_0 : decode cX5_lost 0 = .ok (.ldc2_w 43, 3) := by decide +kernel
theorem dX5_lost_3 : decode cX5_lost 3 = .ok (.lreturn, 1) := by decide +kernel
theorem dX5_isIn_0 : decode cX5_isIn 0 = .ok (.iload_n 0, 1) := by decide +kernel
theorem dX5_isIn_1 : decode cX5_isIn 1 = .ok (.iload_n 1, 1) := by decide +kernel
theorem dX5_isIn_2 : decode cX5_isIn 2 = .ok (.ishr, 1) := by decide +kernel
theorem dX5_isIn_3 : decode cX5_isIn 3 = .ok (.iconst 1, 1) := by decide +kernel
theorem dX5_isIn_4 : decode cX5_isIn 4 = .ok (.iand, 1) := by decide +kernel
theorem dX5_isIn_5 : decode cX5_isIn 5 = .ok (.iconst 1, 1) := by decide +kernel
theorem dX5_isIn_6 : decode cX5_isIn 6 = .ok (.if_icmp .ne 7, 3) := by decide +kernel
theorem dX5_isIn_9 : decode cX5_isIn 9 = .ok (.iconst 1, 1) := by decide +kernel
theorem dX5_isIn_10 : decode cX5_isIn 10 = .ok (.goto 4, 3) := by decide +kernel
theorem dX5_isIn_13 : decode cX5_isIn 13 = .ok (.iconst 0, 1) := by decide +kernel
theorem dX5_isIn_14 : decode cX5_isIn 14 = .ok (.ireturn, 1) := by decide +kernel
theorem dX5_bits_0 : decode cX5_bits 0 = .ok (.iconst 0, 1) := by decide +kernel
theorem dX5_bits_1 : decode cX5_bits 1 = .ok (.istore_n 1, 1) := by decide +kernel
theorem dX5_bits_2 : decode cX5_bits 2 = .ok (.iload_n 0, 1) := by decide +kernel
theorem dX5_bits_3 : decode cX5_bits 3 = .ok (.istore_n 2, 1) := by decide +kernel
theorem dX5_bits_4 : decode cX5_bits 4 = .ok (.iload_n 2, 1) := by decide +kernel
theorem dX5_bits_5 : decode cX5_bits 5 = .ok (.ifCond .le 16, 3) := by decide +kernel
theorem dX5_bits_8 : decode cX5_bits 8 = .ok (.iload_n 1, 1) := by decide +kernel
theorem dX5_bits_9 : decode cX5_bits 9 = .ok (.iload_n 2, 1) := by decide +kernel
theorem dX5_bits_10 : decode cX5_bits 10 = .ok (.iconst 1, 1) := by decide +kernel
theorem dX5_bits_11 : decode cX5_bits 11 = .ok (.iand, 1) := by decide +kernel
theorem dX5_bits_12 : decode cX5_bits 12 = .ok (.iadd, 1) := by decide +kernel
theorem dX5_bits_13 : decode cX5_bits 13 = .ok (.istore_n 1, 1) := by decide +kernel
theorem dX5_bits_14 : decode cX5_bits 14 = .ok (.iload_n 2, 1) := by decide +kernel
theorem dX5_bits_15 : decode cX5_bits 15 = .ok (.iconst 1, 1) := by decide +kernel
theorem dX5_bits_16 : decode cX5_bits 16 = .ok (.ishr, 1) := by decide +kernel
theorem dX5_bits_17 : decode cX5_bits 17 = .ok (.istore_n 2, 1) := by decide +kernel
theorem dX5_bits_18 : decode cX5_bits 18 = .ok (.goto (-14), 3) := by decide +kernel
theorem dX5_bits_21 : decode cX5_bits 21 = .ok (.iload_n 1, 1) := by decide +kernel
theorem dX5_bits_22 : decode cX5_bits 22 = .ok (.ireturn, 1) := by decide +kernel
theorem dX5_share_0 : decode cX5_share 0 = .ok (.lload_n 0, 1) := by decide +kernel
theorem dX5_share_1 : decode cX5_share 1 = .ok (.lstore 5, 2) := by decide +kernel
theorem dX5_share_3 : decode cX5_share 3 = .ok (.lload_n 2, 1) := by decide +kernel
theorem dX5_share_4 : decode cX5_share 4 = .ok (.lstore 7, 2) := by decide +kernel
theorem dX5_share_6 : decode cX5_share 6 = .ok (.lload 7, 2) := by decide +kernel
theorem dX5_share_8 : decode cX5_share 8 = .ok (.lconst 0, 1) := by decide +kernel
theorem dX5_share_9 : decode cX5_share 9 = .ok (.lcmp, 1) := by decide +kernel
theorem dX5_share_10 : decode cX5_share 10 = .ok (.ifCond .eq 21, 3) := by decide +kernel
theorem dX5_share_13 : decode cX5_share 13 = .ok (.lload 5, 2) := by decide +kernel
theorem dX5_share_15 : decode cX5_share 15 = .ok (.lload 7, 2) := by decide +kernel
theorem dX5_share_17 : decode cX5_share 17 = .ok (.lrem, 1) := by decide +kernel
theorem dX5_share_18 : decode cX5_share 18 = .ok (.lstore 9, 2) := by decide +kernel
theorem dX5_share_20 : decode cX5_share 20 = .ok (.lload 7, 2) := by decide +kernel
theorem dX5_share_22 : decode cX5_share 22 = .ok (.lstore 5, 2) := by decide +kernel
theorem dX5_share_24 : decode cX5_share 24 = .ok (.lload 9, 2) := by decide +kernel
theorem dX5_share_26 : decode cX5_share 26 = .ok (.lstore 7, 2) := by decide +kernel
theorem dX5_share_28 : decode cX5_share 28 = .ok (.goto (-22), 3) := by decide +kernel
theorem dX5_share_31 : decode cX5_share 31 = .ok (.iload 4, 2) := by decide +kernel
theorem dX5_share_33 : decode cX5_share 33 = .ok (.ifCond .ne 7, 3) := by decide +kernel
theorem dX5_share_36 : decode cX5_share 36 = .ok (.lload_n 0, 1) := by decide +kernel
theorem dX5_share_37 : decode cX5_share 37 = .ok (.goto 4, 3) := by decide +kernel
theorem dX5_share_40 : decode cX5_share 40 = .ok (.lload_n 2, 1) := by decide +kernel
theorem dX5_share_41 : decode cX5_share 41 = .ok (.lload 5, 2) := by decide +kernel
theorem dX5_share_43 : decode cX5_share 43 = .ok (.ldiv, 1) := by decide +kernel
theorem dX5_share_44 : decode cX5_share 44 = .ok (.lreturn, 1) := by decide +kernel
theorem dX5_isAbove_0 : decode cX5_isAbove 0 = .ok (.lload_n 0, 1) := by decide +kernel
theorem dX5_isAbove_1 : decode cX5_isAbove 1 = .ok (.lstore 8, 2) := by decide +kernel
theorem dX5_isAbove_3 : decode cX5_isAbove 3 = .ok (.lload_n 2, 1) := by decide +kernel
theorem dX5_isAbove_4 : decode cX5_isAbove 4 = .ok (.lstore 10, 2) := by decide +kernel
theorem dX5_isAbove_6 : decode cX5_isAbove 6 = .ok (.lload 4, 2) := by decide +kernel
theorem dX5_isAbove_8 : decode cX5_isAbove 8 = .ok (.lstore 12, 2) := by decide +kernel
theorem dX5_isAbove_10 : decode cX5_isAbove 10 = .ok (.lload 6, 2) := by decide +kernel
theorem dX5_isAbove_12 : decode cX5_isAbove 12 = .ok (.lstore 14, 2) := by decide +kernel
theorem dX5_isAbove_14 : decode cX5_isAbove 14 = .ok (.iconst 0, 1) := by decide +kernel
theorem dX5_isAbove_15 : decode cX5_isAbove 15 = .ok (.istore 16, 2) := by decide +kernel
theorem dX5_isAbove_17 : decode cX5_isAbove 17 = .ok (.lload 8, 2) := by decide +kernel
theorem dX5_isAbove_19 : decode cX5_isAbove 19 = .ok (.lload 10, 2) := by decide +kernel
theorem dX5_isAbove_21 : decode cX5_isAbove 21 = .ok (.ldiv, 1) := by decide +kernel
theorem dX5_isAbove_22 : decode cX5_isAbove 22 = .ok (.lload 12, 2) := by decide +kernel
theorem dX5_isAbove_24 : decode cX5_isAbove 24 = .ok (.lload 14, 2) := by decide +kernel
theorem dX5_isAbove_26 : decode cX5_isAbove 26 = .ok (.ldiv, 1) := by decide +kernel
theorem dX5_isAbove_27 : decode cX5_isAbove 27 = .ok (.lcmp, 1) := by decide +kernel
theorem dX5_isAbove_28 : decode cX5_isAbove 28 = .ok (.ifCond .ne 68, 3) := by decide +kernel
theorem dX5_isAbove_31 : decode cX5_isAbove 31 = .ok (.lload 8, 2) := by decide +kernel
theorem dX5_isAbove_33 : decode cX5_isAbove 33 = .ok (.lload 10, 2) := by decide +kernel
theorem dX5_isAbove_35 : decode cX5_isAbove 35 = .ok (.lrem, 1) := by decide +kernel
theorem dX5_isAbove_36 : decode cX5_isAbove 36 = .ok (.lconst 0, 1) := by decide +kernel
theorem dX5_isAbove_37 : decode cX5_isAbove 37 = .ok (.lcmp, 1) := by decide +kernel
theorem dX5_isAbove_38 : decode cX5_isAbove 38 = .ok (.ifCond .eq 58, 3) := by decide +kernel
theorem dX5_isAbove_41 : decode cX5_isAbove 41 = .ok (.lload 12, 2) := by decide +kernel
theorem dX5_isAbove_43 : decode cX5_isAbove 43 = .ok (.lload 14, 2) := by decide +kernel
theorem dX5_isAbove_45 : decode cX5_isAbove 45 = .ok (.lrem, 1) := by decide +kernel
theorem dX5_isAbove_46 : decode cX5_isAbove 46 = .ok (.lconst 0, 1) := by decide +kernel
theorem dX5_isAbove_47 : decode cX5_isAbove 47 = .ok (.lcmp, 1) := by decide +kernel
theorem dX5_isAbove_48 : decode cX5_isAbove 48 = .ok (.ifCond .eq 48, 3) := by decide +kernel
theorem dX5_isAbove_51 : decode cX5_isAbove 51 = .ok (.lload 8, 2) := by decide +kernel
theorem dX5_isAbove_53 : decode cX5_isAbove 53 = .ok (.lload 10, 2) := by decide +kernel
theorem dX5_isAbove_55 : decode cX5_isAbove 55 = .ok (.lrem, 1) := by decide +kernel
theorem dX5_isAbove_56 : decode cX5_isAbove 56 = .ok (.lstore 17, 2) := by decide +kernel
theorem dX5_isAbove_58 : decode cX5_isAbove 58 = .ok (.lload 12, 2) := by decide +kernel
theorem dX5_isAbove_60 : decode cX5_isAbove 60 = .ok (.lload 14, 2) := by decide +kernel
theorem dX5_isAbove_62 : decode cX5_isAbove 62 = .ok (.lrem, 1) := by decide +kernel
theorem dX5_isAbove_63 : decode cX5_isAbove 63 = .ok (.lstore 19, 2) := by decide +kernel
theorem dX5_isAbove_65 : decode cX5_isAbove 65 = .ok (.lload 10, 2) := by decide +kernel
theorem dX5_isAbove_67 : decode cX5_isAbove 67 = .ok (.lstore 8, 2) := by decide +kernel
theorem dX5_isAbove_69 : decode cX5_isAbove 69 = .ok (.lload 17, 2) := by decide +kernel
theorem dX5_isAbove_71 : decode cX5_isAbove 71 = .ok (.lstore 10, 2) := by decide +kernel
theorem dX5_isAbove_73 : decode cX5_isAbove 73 = .ok (.lload 14, 2) := by decide +kernel
theorem dX5_isAbove_75 : decode cX5_isAbove 75 = .ok (.lstore 12, 2) := by decide +kernel
theorem dX5_isAbove_77 : decode cX5_isAbove 77 = .ok (.lload 19, 2) := by decide +kernel
theorem dX5_isAbove_79 : decode cX5_isAbove 79 = .ok (.lstore 14, 2) := by decide +kernel
theorem dX5_isAbove_81 : decode cX5_isAbove 81 = .ok (.iload 16, 2) := by decide +kernel
theorem dX5_isAbove_83 : decode cX5_isAbove 83 = .ok (.ifCond .ne 7, 3) := by decide +kernel
theorem dX5_isAbove_86 : decode cX5_isAbove 86 = .ok (.iconst 1, 1) := by decide +kernel
theorem dX5_isAbove_87 : decode cX5_isAbove 87 = .ok (.goto 4, 3) := by decide +kernel
theorem dX5_isAbove_90 : decode cX5_isAbove 90 = .ok (.iconst 0, 1) := by decide +kernel
theorem dX5_isAbove_91 : decode cX5_isAbove 91 = .ok (.istore 16, 2) := by decide +kernel
theorem dX5_isAbove_93 : decode cX5_isAbove 93 = .ok (.goto (-76), 3) := by decide +kernel
theorem dX5_isAbove_96 : decode cX5_isAbove 96 = .ok (.lload 8, 2) := by decide +kernel
theorem dX5_isAbove_98 : decode cX5_isAbove 98 = .ok (.lload 10, 2) := by decide +kernel
theorem dX5_isAbove_100 : decode cX5_isAbove 100 = .ok (.ldiv, 1) := by decide +kernel
theorem dX5_isAbove_101 : decode cX5_isAbove 101 = .ok (.lload 12, 2) := by decide +kernel
theorem dX5_isAbove_103 : decode cX5_isAbove 103 = .ok (.lload 14, 2) := by decide +kernel
theorem dX5_isAbove_105 : decode cX5_isAbove 105 = .ok (.ldiv, 1) := by decide +kernel
theorem dX5_isAbove_106 : decode cX5_isAbove 106 = .ok (.lcmp, 1) := by decide +kernel
theorem dX5_isAbove_107 : decode cX5_isAbove 107 = .ok (.ifCond .eq 50, 3) := by decide +kernel
theorem dX5_isAbove_110 : decode cX5_isAbove 110 = .ok (.iload 16, 2) := by decide +kernel
theorem dX5_isAbove_112 : decode cX5_isAbove 112 = .ok (.ifCond .eq 25, 3) := by decide +kernel
theorem dX5_isAbove_115 : decode cX5_isAbove 115 = .ok (.lload 8, 2) := by decide +kernel
theorem dX5_isAbove_117 : decode cX5_isAbove 117 = .ok (.lload 10, 2) := by decide +kernel
theorem dX5_isAbove_119 : decode cX5_isAbove 119 = .ok (.ldiv, 1) := by decide +kernel
theorem dX5_isAbove_120 : decode cX5_isAbove 120 = .ok (.lload 12, 2) := by decide +kernel
theorem dX5_isAbove_122 : decode cX5_isAbove 122 = .ok (.lload 14, 2) := by decide +kernel
theorem dX5_isAbove_124 : decode cX5_isAbove 124 = .ok (.ldiv, 1) := by decide +kernel
theorem dX5_isAbove_125 : decode cX5_isAbove 125 = .ok (.lcmp, 1) := by decide +kernel
theorem dX5_isAbove_126 : decode cX5_isAbove 126 = .ok (.ifCond .ge 7, 3) := by decide +kernel
theorem dX5_isAbove_129 : decode cX5_isAbove 129 = .ok (.iconst 1, 1) := by decide +kernel
theorem dX5_isAbove_130 : decode cX5_isAbove 130 = .ok (.goto 26, 3) := by decide +kernel
theorem dX5_isAbove_133 : decode cX5_isAbove 133 = .ok (.iconst 0, 1) := by decide +kernel
theorem dX5_isAbove_134 : decode cX5_isAbove 134 = .ok (.goto 22, 3) := by decide +kernel
theorem dX5_isAbove_137 : decode cX5_isAbove 137 = .ok (.lload 8, 2) := by decide +kernel
theorem dX5_isAbove_139 : decode cX5_isAbove 139 = .ok (.lload 10, 2) := by decide +kernel
theorem dX5_isAbove_141 : decode cX5_isAbove 141 = .ok (.ldiv, 1) := by decide +kernel
theorem dX5_isAbove_142 : decode cX5_isAbove 142 = .ok (.lload 12, 2) := by decide +kernel
theorem dX5_isAbove_144 : decode cX5_isAbove 144 = .ok (.lload 14, 2) := by decide +kernel
theorem dX5_isAbove_146 : decode cX5_isAbove 146 = .ok (.ldiv, 1) := by decide +kernel
theorem dX5_isAbove_147 : decode cX5_isAbove 147 = .ok (.lcmp, 1) := by decide +kernel
theorem dX5_isAbove_148 : decode cX5_isAbove 148 = .ok (.ifCond .le 7, 3) := by decide +kernel
theorem dX5_isAbove_151 : decode cX5_isAbove 151 = .ok (.iconst 1, 1) := by decide +kernel
theorem dX5_isAbove_152 : decode cX5_isAbove 152 = .ok (.goto 4, 3) := by decide +kernel
theorem dX5_isAbove_155 : decode cX5_isAbove 155 = .ok (.iconst 0, 1) := by decide +kernel
theorem dX5_isAbove_156 : decode cX5_isAbove 156 = .ok (.ireturn, 1) := by decide +kernel
theorem dX5_isAbove_157 : decode cX5_isAbove 157 = .ok (.iload 16, 2) := by decide +kernel
theorem dX5_isAbove_159 : decode cX5_isAbove 159 = .ok (.ifCond .eq 25, 3) := by decide +kernel
theorem dX5_isAbove_162 : decode cX5_isAbove 162 = .ok (.lload 8, 2) := by decide +kernel
theorem dX5_isAbove_164 : decode cX5_isAbove 164 = .ok (.lload 10, 2) := by decide +kernel
theorem dX5_isAbove_166 : decode cX5_isAbove 166 = .ok (.lrem, 1) := by decide +kernel
theorem dX5_isAbove_167 : decode cX5_isAbove 167 = .ok (.lload 12, 2) := by decide +kernel
theorem dX5_isAbove_169 : decode cX5_isAbove 169 = .ok (.lload 14, 2) := by decide +kernel
theorem dX5_isAbove_171 : decode cX5_isAbove 171 = .ok (.lrem, 1) := by decide +kernel
theorem dX5_isAbove_172 : decode cX5_isAbove 172 = .ok (.lcmp, 1) := by decide +kernel
theorem dX5_isAbove_173 : decode cX5_isAbove 173 = .ok (.ifCond .ge 7, 3) := by decide +kernel
theorem dX5_isAbove_176 : decode cX5_isAbove 176 = .ok (.iconst 1, 1) := by decide +kernel
theorem dX5_isAbove_177 : decode cX5_isAbove 177 = .ok (.goto 26, 3) := by decide +kernel
theorem dX5_isAbove_180 : decode cX5_isAbove 180 = .ok (.iconst 0, 1) := by decide +kernel
theorem dX5_isAbove_181 : decode cX5_isAbove 181 = .ok (.goto 22, 3) := by decide +kernel
theorem dX5_isAbove_184 : decode cX5_isAbove 184 = .ok (.lload 8, 2) := by decide +kernel
theorem dX5_isAbove_186 : decode cX5_isAbove 186 = .ok (.lload 10, 2) := by decide +kernel
theorem dX5_isAbove_188 : decode cX5_isAbove 188 = .ok (.lrem, 1) := by decide +kernel
theorem dX5_isAbove_189 : decode cX5_isAbove 189 = .ok (.lload 12, 2) := by decide +kernel
theorem dX5_isAbove_191 : decode cX5_isAbove 191 = .ok (.lload 14, 2) := by decide +kernel
theorem dX5_isAbove_193 : decode cX5_isAbove 193 = .ok (.lrem, 1) := by decide +kernel
theorem dX5_isAbove_194 : decode cX5_isAbove 194 = .ok (.lcmp, 1) := by decide +kernel
theorem dX5_isAbove_195 : decode cX5_isAbove 195 = .ok (.ifCond .le 7, 3) := by decide +kernel
theorem dX5_isAbove_198 : decode cX5_isAbove 198 = .ok (.iconst 1, 1) := by decide +kernel
theorem dX5_isAbove_199 : decode cX5_isAbove 199 = .ok (.goto 4, 3) := by decide +kernel
theorem dX5_isAbove_202 : decode cX5_isAbove 202 = .ok (.iconst 0, 1) := by decide +kernel
theorem dX5_isAbove_203 : decode cX5_isAbove 203 = .ok (.ireturn, 1) := by decide +kernel
theorem dX5_waysOf_0 : decode cX5_waysOf 0 = .ok (.iload_n 1, 1) := by decide +kernel
theorem dX5_waysOf_1 : decode cX5_waysOf 1 = .ok (.iload_n 0, 1) := by decide +kernel
theorem dX5_waysOf_2 : decode cX5_waysOf 2 = .ok (.if_icmp .le 7, 3) := by decide +kernel
theorem dX5_waysOf_5 : decode cX5_waysOf 5 = .ok (.lconst 0, 1) := by decide +kernel
theorem dX5_waysOf_6 : decode cX5_waysOf 6 = .ok (.goto 4, 3) := by decide +kernel
theorem dX5_waysOf_9 : decode cX5_waysOf 9 = .ok (.lconst 1, 1) := by decide +kernel
theorem dX5_waysOf_10 : decode cX5_waysOf 10 = .ok (.lstore_n 2, 1) := by decide +kernel
theorem dX5_waysOf_11 : decode cX5_waysOf 11 = .ok (.iconst 0, 1) := by decide +kernel
theorem dX5_waysOf_12 : decode cX5_waysOf 12 = .ok (.istore 4, 2) := by decide +kernel
theorem dX5_waysOf_14 : decode cX5_waysOf 14 = .ok (.iload 4, 2) := by decide +kernel
theorem dX5_waysOf_16 : decode cX5_waysOf 16 = .ok (.iload_n 1, 1) := by decide +kernel
theorem dX5_waysOf_17 : decode cX5_waysOf 17 = .ok (.if_icmp .ge 29, 3) := by decide +kernel
theorem dX5_waysOf_20 : decode cX5_waysOf 20 = .ok (.lload_n 2, 1) := by decide +kernel
theorem dX5_waysOf_21 : decode cX5_waysOf 21 = .ok (.lconst 0, 1) := by decide +kernel
theorem dX5_waysOf_22 : decode cX5_waysOf 22 = .ok (.lcmp, 1) := by decide +kernel
theorem dX5_waysOf_23 : decode cX5_waysOf 23 = .ok (.ifCond .le 23, 3) := by decide +kernel
theorem dX5_waysOf_26 : decode cX5_waysOf 26 = .ok (.lload_n 2, 1) := by decide +kernel
theorem dX5_waysOf_27 : decode cX5_waysOf 27 = .ok (.iload_n 0, 1) := by decide +kernel
theorem dX5_waysOf_28 : decode cX5_waysOf 28 = .ok (.iload 4, 2) := by decide +kernel
theorem dX5_waysOf_30 : decode cX5_waysOf 30 = .ok (.isub, 1) := by decide +kernel
theorem dX5_waysOf_31 : decode cX5_waysOf 31 = .ok (.i2l, 1) := by decide +kernel
theorem dX5_waysOf_32 : decode cX5_waysOf 32 = .ok (.lmul, 1) := by decide +kernel
theorem dX5_waysOf_33 : decode cX5_waysOf 33 = .ok (.iload 4, 2) := by decide +kernel
theorem dX5_waysOf_35 : decode cX5_waysOf 35 = .ok (.iconst 1, 1) := by decide +kernel
theorem dX5_waysOf_36 : decode cX5_waysOf 36 = .ok (.iadd, 1) := by decide +kernel
theorem dX5_waysOf_37 : decode cX5_waysOf 37 = .ok (.i2l, 1) := by decide +kernel
theorem dX5_waysOf_38 : decode cX5_waysOf 38 = .ok (.ldiv, 1) := by decide +kernel
theorem dX5_waysOf_39 : decode cX5_waysOf 39 = .ok (.lstore_n 2, 1) := by decide +kernel
theorem dX5_waysOf_40 : decode cX5_waysOf 40 = .ok (.iinc 4 1, 3) := by decide +kernel
theorem dX5_waysOf_43 : decode cX5_waysOf 43 = .ok (.goto (-29), 3) := by decide +kernel
theorem dX5_waysOf_46 : decode cX5_waysOf 46 = .ok (.lload_n 2, 1) := by decide +kernel
theorem dX5_waysOf_47 : decode cX5_waysOf 47 = .ok (.lreturn, 1) := by decide +kernel
theorem dX5_refused_0 : decode cX5_refused 0 = .ok (.aload_n 0, 1) := by decide +kernel
theorem dX5_refused_1 : decode cX5_refused 1 = .ok (.iconst 0, 1) := by decide +kernel
theorem dX5_refused_2 : decode cX5_refused 2 = .ok (.putfield 45, 3) := by decide +kernel
theorem dX5_refused_5 : decode cX5_refused 5 = .ok (.iload_n 1, 1) := by decide +kernel
theorem dX5_refused_6 : decode cX5_refused 6 = .ok (.ireturn, 1) := by decide +kernel
theorem dX5_failed_0 : decode cX5_failed 0 = .ok (.aload_n 0, 1) := by decide +kernel
theorem dX5_failed_1 : decode cX5_failed 1 = .ok (.iload_n 1, 1) := by decide +kernel
theorem dX5_failed_2 : decode cX5_failed 2 = .ok (.putfield 45, 3) := by decide +kernel
theorem dX5_failed_5 : decode cX5_failed 5 = .ok (.bipush (-10), 2) := by decide +kernel
theorem dX5_failed_7 : decode cX5_failed 7 = .ok (.iload_n 1, 1) := by decide +kernel
theorem dX5_failed_8 : decode cX5_failed 8 = .ok (.isub, 1) := by decide +kernel
theorem dX5_failed_9 : decode cX5_failed 9 = .ok (.ireturn, 1) := by decide +kernel
set_option maxRecDepth 20000 in
theorem ggX5_failedLong_X5_lost : GoodIn wsX5_failedLong wsX5_lost := goodIn_r _ [5, 6] (by decide +kernel) (by decide +kernel)
set_option maxRecDepth 20000 in
theorem gX5_failedLong_X5_lost : GoodIn wsX5_failedLong (va_wsS RX5 49 yX5_lost wsX5_lost) := goodIn_app (goodIn_of _ (by decide +kernel)) ggX5_failedLong_X5_lost
theorem dX5_failedLong_0 : decode cX5_failedLong 0 = .ok (.aload_n 0, 1) := by decide +kernel
theorem dX5_failedLong_1 : decode cX5_failedLong 1 = .ok (.iload_n 1, 1) := by decide +kernel
theorem dX5_failedLong_2 : decode cX5_failedLong 2 = .ok (.putfield 45, 3) := by decide +kernel
theorem dX5_failedLong_5 : decode cX5_failedLong 5 = .ok (.invokestatic 49, 3) := by decide +kernel
theorem dX5_failedLong_8 : decode cX5_failedLong 8 = .ok (.lreturn, 1) := by decide +kernel
set_option maxRecDepth 20000 in
theorem ggX5_noCitizen_X5_in : GoodIn wsX5_noCitizen wsX5_in := goodIn_r _ [5] (by decide +kernel) (by decide +kernel)
set_option maxRecDepth 20000 in
theorem gX5_noCitizen_X5_in : GoodIn wsX5_noCitizen (va_wsS RX5 56 yX5_in wsX5_in) := goodIn_app (goodIn_of _ (by decide +kernel)) ggX5_noCitizen_X5_in
theorem dX5_noCitizen_0 : decode cX5_noCitizen 0 = .ok (.iload_n 1, 1) := by decide +kernel
theorem dX5_noCitizen_1 : decode cX5_noCitizen 1 = .ok (.i2l, 1) := by decide +kernel
theorem dX5_noCitizen_2 : decode cX5_noCitizen 2 = .ok (.lconst 0, 1) := by decide +kernel
theorem dX5_noCitizen_3 : decode cX5_noCitizen 3 = .ok (.aload_n 0, 1) := by decide +kernel
theorem dX5_noCitizen_4 : decode cX5_noCitizen 4 = .ok (.getfield 53, 3) := by decide +kernel
theorem dX5_noCitizen_7 : decode cX5_noCitizen 7 = .ok (.i2l, 1) := by decide +kernel
theorem dX5_noCitizen_8 : decode cX5_noCitizen 8 = .ok (.lconst 1, 1) := by decide +kernel
theorem dX5_noCitizen_9 : decode cX5_noCitizen 9 = .ok (.lsub, 1) := by decide +kernel
theorem dX5_noCitizen_10 : decode cX5_noCitizen 10 = .ok (.invokestatic 56, 3) := by decide +kernel
theorem dX5_noCitizen_13 : decode cX5_noCitizen 13 = .ok (.ifCond .ne 7, 3) := by decide +kernel
theorem dX5_noCitizen_16 : decode cX5_noCitizen 16 = .ok (.iconst 1, 1) := by decide +kernel
theorem dX5_noCitizen_17 : decode cX5_noCitizen 17 = .ok (.goto 4, 3) := by decide +kernel
theorem dX5_noCitizen_20 : decode cX5_noCitizen 20 = .ok (.iconst 0, 1) := by decide +kernel
theorem dX5_noCitizen_21 : decode cX5_noCitizen 21 = .ok (.ireturn, 1) := by decide +kernel
theorem dX5_everybody_0 : decode cX5_everybody 0 = .ok (.iconst 1, 1) := by decide +kernel
theorem dX5_everybody_1 : decode cX5_everybody 1 = .ok (.aload_n 0, 1) := by decide +kernel
theorem dX5_everybody_2 : decode cX5_everybody 2 = .ok (.getfield 53, 3) := by decide +kernel
theorem dX5_everybody_5 : decode cX5_everybody 5 = .ok (.ishl, 1) := by decide +kernel
theorem dX5_everybody_6 : decode cX5_everybody 6 = .ok (.iconst 1, 1) := by decide +kernel
theorem dX5_everybody_7 : decode cX5_everybody 7 = .ok (.isub, 1) := by decide +kernel
theorem dX5_everybody_8 : decode cX5_everybody 8 = .ok (.ireturn, 1) := by decide +kernel
theorem dX5_codeAt_0 : decode cX5_codeAt 0 = .ok (.aload_n 0, 1) := by decide +kernel
theorem dX5_codeAt_1 : decode cX5_codeAt 1 = .ok (.getfield 60, 3) := by decide +kernel
theorem dX5_codeAt_4 : decode cX5_codeAt 4 = .ok (.iload_n 2, 1) := by decide +kernel
theorem dX5_codeAt_5 : decode cX5_codeAt 5 = .ok (.if_icmp .ge 17, 3) := by decide +kernel
theorem dX5_codeAt_8 : decode cX5_codeAt 8 = .ok (.aload_n 0, 1) := by decide +kernel
theorem dX5_codeAt_9 : decode cX5_codeAt 9 = .ok (.getfield 37, 3) := by decide +kernel
theorem dX5_codeAt_12 : decode cX5_codeAt 12 = .ok (.iload_n 1, 1) := by decide +kernel
theorem dX5_codeAt_13 : decode cX5_codeAt 13 = .ok (.aload_n 0, 1) := by decide +kernel
theorem dX5_codeAt_14 : decode cX5_codeAt 14 = .ok (.getfield 60, 3) := by decide +kernel
theorem dX5_codeAt_17 : decode cX5_codeAt 17 = .ok (.iadd, 1) := by decide +kernel
theorem dX5_codeAt_18 : decode cX5_codeAt 18 = .ok (.iaload, 1) := by decide +kernel
theorem dX5_codeAt_19 : decode cX5_codeAt 19 = .ok (.goto 5, 3) := by decide +kernel
theorem dX5_codeAt_22 : decode cX5_codeAt 22 = .ok (.bipush (-9), 2) := by decide +kernel
theorem dX5_codeAt_24 : decode cX5_codeAt 24 = .ok (.ireturn, 1) := by decide +kernel
set_option maxRecDepth 20000 in
theorem ggX5_figure_X5_codeAt : GoodIn wsX5_figure wsX5_codeAt := goodIn_r _ [6, 1, 7, 11, 12, 13, 14, 15, 16, 17, 18, 19, 20, 21, 22, 23, 24, 25, 26, 27, 28, 29, 30, 31, 32, 33, 34] (by decide +kernel) (by decide +kernel)
set_option maxRecDepth 20000 in
theorem gX5_figure_X5_codeAt : GoodIn wsX5_figure (wsV RX5 63 RX5 yX5_codeAt wsX5_codeAt) := goodIn_app (goodIn_of _ (by decide +kernel)) ggX5_figure_X5_codeAt
set_option maxRecDepth 20000 in
theorem ggX5_figure_X5_in : GoodIn wsX5_figure wsX5_in := goodIn_r _ [10] (by decide +kernel) (by decide +kernel)
set_option maxRecDepth 20000 in
theorem gX5_figure_X5_in : GoodIn wsX5_figure (va_wsS RX5 56 yX5_in wsX5_in) := goodIn_app (goodIn_of _ (by decide +kernel)) ggX5_figure_X5_in
theorem dX5_figure_0 : decode cX5_figure 0 = .ok (.aload_n 0, 1) := by decide +kernel
theorem dX5_figure_1 : decode cX5_figure 1 = .ok (.iload_n 1, 1) := by decide +kernel
theorem dX5_figure_2 : decode cX5_figure 2 = .ok (.iload_n 2, 1) := by decide +kernel
theorem dX5_figure_3 : decode cX5_figure 3 = .ok (.invokevirtual 63, 3) := by decide +kernel
theorem dX5_figure_6 : decode cX5_figure 6 = .ok (.bipush 48, 2) := by decide +kernel
theorem dX5_figure_8 : decode cX5_figure 8 = .ok (.isub, 1) := by decide +kernel
theorem dX5_figure_9 : decode cX5_figure 9 = .ok (.istore 5, 2) := by decide +kernel
theorem dX5_figure_11 : decode cX5_figure 11 = .ok (.iload 5, 2) := by decide +kernel
theorem dX5_figure_13 : decode cX5_figure 13 = .ok (.i2l, 1) := by decide +kernel
theorem dX5_figure_14 : decode cX5_figure 14 = .ok (.iload_n 3, 1) := by decide +kernel
theorem dX5_figure_15 : decode cX5_figure 15 = .ok (.i2l, 1) := by decide +kernel
theorem dX5_figure_16 : decode cX5_figure 16 = .ok (.iload 4, 2) := by decide +kernel
theorem dX5_figure_18 : decode cX5_figure 18 = .ok (.i2l, 1) := by decide +kernel
theorem dX5_figure_19 : decode cX5_figure 19 = .ok (.invokestatic 56, 3) := by decide +kernel
theorem dX5_figure_22 : decode cX5_figure 22 = .ok (.istore 6, 2) := by decide +kernel
theorem dX5_figure_24 : decode cX5_figure 24 = .ok (.aload_n 0, 1) := by decide +kernel
theorem dX5_figure_25 : decode cX5_figure 25 = .ok (.dup, 1) := by decide +kernel
theorem dX5_figure_26 : decode cX5_figure 26 = .ok (.getfield 60, 3) := by decide +kernel
theorem dX5_figure_29 : decode cX5_figure 29 = .ok (.iload 6, 2) := by decide +kernel
theorem dX5_figure_31 : decode cX5_figure 31 = .ok (.ifCond .eq 7, 3) := by decide +kernel
theorem dX5_figure_34 : decode cX5_figure 34 = .ok (.iconst 1, 1) := by decide +kernel
theorem dX5_figure_35 : decode cX5_figure 35 = .ok (.goto 4, 3) := by decide +kernel
theorem dX5_figure_38 : decode cX5_figure 38 = .ok (.iconst 0, 1) := by decide +kernel
theorem dX5_figure_39 : decode cX5_figure 39 = .ok (.iadd, 1) := by decide +kernel
theorem dX5_figure_40 : decode cX5_figure 40 = .ok (.putfield 60, 3) := by decide +kernel
theorem dX5_figure_43 : decode cX5_figure 43 = .ok (.iload 6, 2) := by decide +kernel
theorem dX5_figure_45 : decode cX5_figure 45 = .ok (.ifCond .eq 8, 3) := by decide +kernel
theorem dX5_figure_48 : decode cX5_figure 48 = .ok (.iload 5, 2) := by decide +kernel
theorem dX5_figure_50 : decode cX5_figure 50 = .ok (.goto 5, 3) := by decide +kernel
theorem dX5_figure_53 : decode cX5_figure 53 = .ok (.bipush (-9), 2) := by decide +kernel
theorem dX5_figure_55 : decode cX5_figure 55 = .ok (.ireturn, 1) := by decide +kernel
set_option maxRecDepth 20000 in
theorem ggX5_readsCitizen_X5_codeAt : GoodIn wsX5_readsCitizen wsX5_codeAt := goodIn_r _ [11, 2, 12, 20, 21, 22, 23, 24, 25, 26, 27, 28, 29, 30, 31, 32, 33, 34, 35, 36, 37, 38, 39, 40, 41, 42, 43] (by decide +kernel) (by decide +kernel)
set_option maxRecDepth 20000 in
theorem gX5_readsCitizen_X5_codeAt : GoodIn wsX5_readsCitizen (wsV RX5 63 RX5 yX5_codeAt wsX5_codeAt) := goodIn_app (goodIn_of _ (by decide +kernel)) ggX5_readsCitizen_X5_codeAt
set_option maxRecDepth 20000 in
theorem ggX5_readsCitizen_X5_figure : GoodIn wsX5_readsCitizen wsX5_figure := goodIn_r _ [16, 2, 7, 8, 9, 10, 11, 12, 17, 18, 19, 20, 21, 22, 23, 24, 25, 26, 27, 28, 29, 30, 31, 32, 33, 34, 35, 36, 37, 38, 39, 40, 41, 42, 43] (by decide +kernel) (by decide +kernel)
set_option maxRecDepth 20000 in
theorem gX5_readsCitizen_X5_figure : GoodIn wsX5_readsCitizen (wsV RX5 70 RX5 yX5_figure wsX5_figure) := goodIn_app (goodIn_of _ (by decide +kernel)) ggX5_readsCitizen_X5_figure
theorem dX5_readsCitizen_0 : decode cX5_readsCitizen 0 = .ok (.aload_n 0, 1) := by decide +kernel
theorem dX5_readsCitizen_1 : decode cX5_readsCitizen 1 = .ok (.getfield 67, 3) := by decide +kernel
theorem dX5_readsCitizen_4 : decode cX5_readsCitizen 4 = .ok (.bipush 6, 2) := by decide +kernel
theorem dX5_readsCitizen_6 : decode cX5_readsCitizen 6 = .ok (.if_icmp .eq 14, 3) := by decide +kernel
theorem dX5_readsCitizen_9 : decode cX5_readsCitizen 9 = .ok (.aload_n 0, 1) := by decide +kernel
theorem dX5_readsCitizen_10 : decode cX5_readsCitizen 10 = .ok (.iload_n 1, 1) := by decide +kernel
theorem dX5_readsCitizen_11 : decode cX5_readsCitizen 11 = .ok (.iload_n 2, 1) := by decide +kernel
theorem dX5_readsCitizen_12 : decode cX5_readsCitizen 12 = .ok (.invokevirtual 63, 3) := by decide +kernel
theorem dX5_readsCitizen_15 : decode cX5_readsCitizen 15 = .ok (.bipush 59, 2) := by decide +kernel
theorem dX5_readsCitizen_17 : decode cX5_readsCitizen 17 = .ok (.if_icmp .eq 5, 3) := by decide +kernel
theorem dX5_readsCitizen_20 : decode cX5_readsCitizen 20 = .ok (.iconst 0, 1) := by decide +kernel
theorem dX5_readsCitizen_21 : decode cX5_readsCitizen 21 = .ok (.ireturn, 1) := by decide +kernel
theorem dX5_readsCitizen_22 : decode cX5_readsCitizen 22 = .ok (.aload_n 0, 1) := by decide +kernel
theorem dX5_readsCitizen_23 : decode cX5_readsCitizen 23 = .ok (.dup, 1) := by decide +kernel
theorem dX5_readsCitizen_24 : decode cX5_readsCitizen 24 = .ok (.getfield 60, 3) := by decide +kernel
theorem dX5_readsCitizen_27 : decode cX5_readsCitizen 27 = .ok (.iconst 1, 1) := by decide +kernel
theorem dX5_readsCitizen_28 : decode cX5_readsCitizen 28 = .ok (.iadd, 1) := by decide +kernel
theorem dX5_readsCitizen_29 : decode cX5_readsCitizen 29 = .ok (.putfield 60, 3) := by decide +kernel
theorem dX5_readsCitizen_32 : decode cX5_readsCitizen 32 = .ok (.aload_n 0, 1) := by decide +kernel
theorem dX5_readsCitizen_33 : decode cX5_readsCitizen 33 = .ok (.iload_n 1, 1) := by decide +kernel
theorem dX5_readsCitizen_34 : decode cX5_readsCitizen 34 = .ok (.iload_n 2, 1) := by decide +kernel
theorem dX5_readsCitizen_35 : decode cX5_readsCitizen 35 = .ok (.invokevirtual 63, 3) := by decide +kernel
theorem dX5_readsCitizen_38 : decode cX5_readsCitizen 38 = .ok (.istore_n 3, 1) := by decide +kernel
theorem dX5_readsCitizen_39 : decode cX5_readsCitizen 39 = .ok (.iload_n 3, 1) := by decide +kernel
theorem dX5_readsCitizen_40 : decode cX5_readsCitizen 40 = .ok (.bipush 99, 2) := by decide +kernel
theorem dX5_readsCitizen_42 : decode cX5_readsCitizen 42 = .ok (.if_icmp .eq 17, 3) := by decide +kernel
theorem dX5_readsCitizen_45 : decode cX5_readsCitizen 45 = .ok (.iload_n 3, 1) := by decide +kernel
theorem dX5_readsCitizen_46 : decode cX5_readsCitizen 46 = .ok (.bipush 114, 2) := by decide +kernel
theorem dX5_readsCitizen_48 : decode cX5_readsCitizen 48 = .ok (.if_icmp .eq 11, 3) := by decide +kernel
theorem dX5_readsCitizen_51 : decode cX5_readsCitizen 51 = .ok (.iload_n 3, 1) := by decide +kernel
theorem dX5_readsCitizen_52 : decode cX5_readsCitizen 52 = .ok (.bipush 109, 2) := by decide +kernel
theorem dX5_readsCitizen_54 : decode cX5_readsCitizen 54 = .ok (.if_icmp .eq 5, 3) := by decide +kernel
theorem dX5_readsCitizen_57 : decode cX5_readsCitizen 57 = .ok (.iconst 0, 1) := by decide +kernel
theorem dX5_readsCitizen_58 : decode cX5_readsCitizen 58 = .ok (.ireturn, 1) := by decide +kernel
theorem dX5_readsCitizen_59 : decode cX5_readsCitizen 59 = .ok (.aload_n 0, 1) := by decide +kernel
theorem dX5_readsCitizen_60 : decode cX5_readsCitizen 60 = .ok (.dup, 1) := by decide +kernel
theorem dX5_readsCitizen_61 : decode cX5_readsCitizen 61 = .ok (.getfield 60, 3) := by decide +kernel
theorem dX5_readsCitizen_64 : decode cX5_readsCitizen 64 = .ok (.iconst 1, 1) := by decide +kernel
theorem dX5_readsCitizen_65 : decode cX5_readsCitizen 65 = .ok (.iadd, 1) := by decide +kernel
theorem dX5_readsCitizen_66 : decode cX5_readsCitizen 66 = .ok (.putfield 60, 3) := by decide +kernel
theorem dX5_readsCitizen_69 : decode cX5_readsCitizen 69 = .ok (.aload_n 0, 1) := by decide +kernel
theorem dX5_readsCitizen_70 : decode cX5_readsCitizen 70 = .ok (.iload_n 1, 1) := by decide +kernel
theorem dX5_readsCitizen_71 : decode cX5_readsCitizen 71 = .ok (.iload_n 2, 1) := by decide +kernel
theorem dX5_readsCitizen_72 : decode cX5_readsCitizen 72 = .ok (.iconst 1, 1) := by decide +kernel
theorem dX5_readsCitizen_73 : decode cX5_readsCitizen 73 = .ok (.bipush 9, 2) := by decide +kernel
theorem dX5_readsCitizen_75 : decode cX5_readsCitizen 75 = .ok (.invokevirtual 70, 3) := by decide +kernel
theorem dX5_readsCitizen_78 : decode cX5_readsCitizen 78 = .ok (.istore 4, 2) := by decide +kernel
theorem dX5_readsCitizen_80 : decode cX5_readsCitizen 80 = .ok (.iload 4, 2) := by decide +kernel
theorem dX5_readsCitizen_82 : decode cX5_readsCitizen 82 = .ok (.ifCond .ge 8, 3) := by decide +kernel
theorem dX5_readsCitizen_85 : decode cX5_readsCitizen 85 = .ok (.bipush (-9), 2) := by decide +kernel
theorem dX5_readsCitizen_87 : decode cX5_readsCitizen 87 = .ok (.goto 12, 3) := by decide +kernel
theorem dX5_readsCitizen_90 : decode cX5_readsCitizen 90 = .ok (.aload_n 0, 1) := by decide +kernel
theorem dX5_readsCitizen_91 : decode cX5_readsCitizen 91 = .ok (.iload_n 1, 1) := by decide +kernel
theorem dX5_readsCitizen_92 : decode cX5_readsCitizen 92 = .ok (.iload_n 2, 1) := by decide +kernel
theorem dX5_readsCitizen_93 : decode cX5_readsCitizen 93 = .ok (.iconst 0, 1) := by decide +kernel
theorem dX5_readsCitizen_94 : decode cX5_readsCitizen 94 = .ok (.bipush 9, 2) := by decide +kernel
theorem dX5_readsCitizen_96 : decode cX5_readsCitizen 96 = .ok (.invokevirtual 70, 3) := by decide +kernel
theorem dX5_readsCitizen_99 : decode cX5_readsCitizen 99 = .ok (.istore 5, 2) := by decide +kernel
theorem dX5_readsCitizen_101 : decode cX5_readsCitizen 101 = .ok (.iload 5, 2) := by decide +kernel
theorem dX5_readsCitizen_103 : decode cX5_readsCitizen 103 = .ok (.ifCond .ge 8, 3) := by decide +kernel
theorem dX5_readsCitizen_106 : decode cX5_readsCitizen 106 = .ok (.bipush (-9), 2) := by decide +kernel
theorem dX5_readsCitizen_108 : decode cX5_readsCitizen 108 = .ok (.goto 12, 3) := by decide +kernel
theorem dX5_readsCitizen_111 : decode cX5_readsCitizen 111 = .ok (.aload_n 0, 1) := by decide +kernel
theorem dX5_readsCitizen_112 : decode cX5_readsCitizen 112 = .ok (.iload_n 1, 1) := by decide +kernel
theorem dX5_readsCitizen_113 : decode cX5_readsCitizen 113 = .ok (.iload_n 2, 1) := by decide +kernel
theorem dX5_readsCitizen_114 : decode cX5_readsCitizen 114 = .ok (.iconst 0, 1) := by decide +kernel
theorem dX5_readsCitizen_115 : decode cX5_readsCitizen 115 = .ok (.bipush 9, 2) := by decide +kernel
theorem dX5_readsCitizen_117 : decode cX5_readsCitizen 117 = .ok (.invokevirtual 70, 3) := by decide +kernel
theorem dX5_readsCitizen_120 : decode cX5_readsCitizen 120 = .ok (.istore 6, 2) := by decide +kernel
theorem dX5_readsCitizen_122 : decode cX5_readsCitizen 122 = .ok (.iload 6, 2) := by decide +kernel
theorem dX5_readsCitizen_124 : decode cX5_readsCitizen 124 = .ok (.ifCond .ge 8, 3) := by decide +kernel
theorem dX5_readsCitizen_127 : decode cX5_readsCitizen 127 = .ok (.bipush (-9), 2) := by decide +kernel
theorem dX5_readsCitizen_129 : decode cX5_readsCitizen 129 = .ok (.goto 9, 3) := by decide +kernel
theorem dX5_readsCitizen_132 : decode cX5_readsCitizen 132 = .ok (.aload_n 0, 1) := by decide +kernel
theorem dX5_readsCitizen_133 : decode cX5_readsCitizen 133 = .ok (.iload_n 1, 1) := by decide +kernel
theorem dX5_readsCitizen_134 : decode cX5_readsCitizen 134 = .ok (.iload_n 2, 1) := by decide +kernel
theorem dX5_readsCitizen_135 : decode cX5_readsCitizen 135 = .ok (.invokevirtual 63, 3) := by decide +kernel
theorem dX5_readsCitizen_138 : decode cX5_readsCitizen 138 = .ok (.istore 7, 2) := by decide +kernel
theorem dX5_readsCitizen_140 : decode cX5_readsCitizen 140 = .ok (.iload 7, 2) := by decide +kernel
theorem dX5_readsCitizen_142 : decode cX5_readsCitizen 142 = .ok (.bipush 121, 2) := by decide +kernel
theorem dX5_readsCitizen_144 : decode cX5_readsCitizen 144 = .ok (.if_icmp .eq 12, 3) := by decide +kernel
theorem dX5_readsCitizen_147 : decode cX5_readsCitizen 147 = .ok (.iload 7, 2) := by decide +kernel
theorem dX5_readsCitizen_149 : decode cX5_readsCitizen 149 = .ok (.bipush 110, 2) := by decide +kernel
theorem dX5_readsCitizen_151 : decode cX5_readsCitizen 151 = .ok (.if_icmp .eq 5, 3) := by decide +kernel
theorem dX5_readsCitizen_154 : decode cX5_readsCitizen 154 = .ok (.iconst 0, 1) := by decide +kernel
theorem dX5_readsCitizen_155 : decode cX5_readsCitizen 155 = .ok (.ireturn, 1) := by decide +kernel
theorem dX5_readsCitizen_156 : decode cX5_readsCitizen 156 = .ok (.aload_n 0, 1) := by decide +kernel
theorem dX5_readsCitizen_157 : decode cX5_readsCitizen 157 = .ok (.dup, 1) := by decide +kernel
theorem dX5_readsCitizen_158 : decode cX5_readsCitizen 158 = .ok (.getfield 60, 3) := by decide +kernel
theorem dX5_readsCitizen_161 : decode cX5_readsCitizen 161 = .ok (.iconst 1, 1) := by decide +kernel
theorem dX5_readsCitizen_162 : decode cX5_readsCitizen 162 = .ok (.iadd, 1) := by decide +kernel
theorem dX5_readsCitizen_163 : decode cX5_readsCitizen 163 = .ok (.putfield 60, 3) := by decide +kernel
theorem dX5_readsCitizen_166 : decode cX5_readsCitizen 166 = .ok (.aload_n 0, 1) := by decide +kernel
theorem dX5_readsCitizen_167 : decode cX5_readsCitizen 167 = .ok (.getfield 19, 3) := by decide +kernel
theorem dX5_readsCitizen_170 : decode cX5_readsCitizen 170 = .ok (.aload_n 0, 1) := by decide +kernel
theorem dX5_readsCitizen_171 : decode cX5_readsCitizen 171 = .ok (.getfield 67, 3) := by decide +kernel
theorem dX5_readsCitizen_174 : decode cX5_readsCitizen 174 = .ok (.iload_n 3, 1) := by decide +kernel
theorem dX5_readsCitizen_175 : decode cX5_readsCitizen 175 = .ok (.bipush 99, 2) := by decide +kernel
theorem dX5_readsCitizen_177 : decode cX5_readsCitizen 177 = .ok (.if_icmp .ne 7, 3) := by decide +kernel
theorem dX5_readsCitizen_180 : decode cX5_readsCitizen 180 = .ok (.iconst 0, 1) := by decide +kernel
theorem dX5_readsCitizen_181 : decode cX5_readsCitizen 181 = .ok (.goto 14, 3) := by decide +kernel
theorem dX5_readsCitizen_184 : decode cX5_readsCitizen 184 = .ok (.iload_n 3, 1) := by decide +kernel
theorem dX5_readsCitizen_185 : decode cX5_readsCitizen 185 = .ok (.bipush 114, 2) := by decide +kernel
theorem dX5_readsCitizen_187 : decode cX5_readsCitizen 187 = .ok (.if_icmp .ne 7, 3) := by decide +kernel
theorem dX5_readsCitizen_190 : decode cX5_readsCitizen 190 = .ok (.iconst 1, 1) := by decide +kernel
theorem dX5_readsCitizen_191 : decode cX5_readsCitizen 191 = .ok (.goto 4, 3) := by decide +kernel
theorem dX5_readsCitizen_194 : decode cX5_readsCitizen 194 = .ok (.iconst 2, 1) := by decide +kernel
theorem dX5_readsCitizen_195 : decode cX5_readsCitizen 195 = .ok (.iastore, 1) := by decide +kernel
theorem dX5_readsCitizen_196 : decode cX5_readsCitizen 196 = .ok (.aload_n 0, 1) := by decide +kernel
theorem dX5_readsCitizen_197 : decode cX5_readsCitizen 197 = .ok (.getfield 22, 3) := by decide +kernel
theorem dX5_readsCitizen_200 : decode cX5_readsCitizen 200 = .ok (.aload_n 0, 1) := by decide +kernel
theorem dX5_readsCitizen_201 : decode cX5_readsCitizen 201 = .ok (.getfield 67, 3) := by decide +kernel
theorem dX5_readsCitizen_204 : decode cX5_readsCitizen 204 = .ok (.iload 4, 2) := by decide +kernel
theorem dX5_readsCitizen_206 : decode cX5_readsCitizen 206 = .ok (.iastore, 1) := by decide +kernel
theorem dX5_readsCitizen_207 : decode cX5_readsCitizen 207 = .ok (.aload_n 0, 1) := by decide +kernel
theorem dX5_readsCitizen_208 : decode cX5_readsCitizen 208 = .ok (.getfield 25, 3) := by decide +kernel
theorem dX5_readsCitizen_211 : decode cX5_readsCitizen 211 = .ok (.aload_n 0, 1) := by decide +kernel
theorem dX5_readsCitizen_212 : decode cX5_readsCitizen 212 = .ok (.getfield 67, 3) := by decide +kernel
theorem dX5_readsCitizen_215 : decode cX5_readsCitizen 215 = .ok (.bipush 10, 2) := by decide +kernel
theorem dX5_readsCitizen_217 : decode cX5_readsCitizen 217 = .ok (.iload 5, 2) := by decide +kernel
theorem dX5_readsCitizen_219 : decode cX5_readsCitizen 219 = .ok (.imul, 1) := by decide +kernel
theorem dX5_readsCitizen_220 : decode cX5_readsCitizen 220 = .ok (.iload 6, 2) := by decide +kernel
theorem dX5_readsCitizen_222 : decode cX5_readsCitizen 222 = .ok (.iadd, 1) := by decide +kernel
theorem dX5_readsCitizen_223 : decode cX5_readsCitizen 223 = .ok (.iastore, 1) := by decide +kernel
theorem dX5_readsCitizen_224 : decode cX5_readsCitizen 224 = .ok (.aload_n 0, 1) := by decide +kernel
theorem dX5_readsCitizen_225 : decode cX5_readsCitizen 225 = .ok (.dup, 1) := by decide +kernel
theorem dX5_readsCitizen_226 : decode cX5_readsCitizen 226 = .ok (.getfield 74, 3) := by decide +kernel
theorem dX5_readsCitizen_229 : decode cX5_readsCitizen 229 = .ok (.iload 7, 2) := by decide +kernel
theorem dX5_readsCitizen_231 : decode cX5_readsCitizen 231 = .ok (.bipush 121, 2) := by decide +kernel
theorem dX5_readsCitizen_233 : decode cX5_readsCitizen 233 = .ok (.if_icmp .ne 12, 3) := by decide +kernel
theorem dX5_readsCitizen_236 : decode cX5_readsCitizen 236 = .ok (.iconst 1, 1) := by decide +kernel
theorem dX5_readsCitizen_237 : decode cX5_readsCitizen 237 = .ok (.aload_n 0, 1) := by decide +kernel
theorem dX5_readsCitizen_238 : decode cX5_readsCitizen 238 = .ok (.getfield 67, 3) := by decide +kernel
theorem dX5_readsCitizen_241 : decode cX5_readsCitizen 241 = .ok (.ishl, 1) := by decide +kernel
theorem dX5_readsCitizen_242 : decode cX5_readsCitizen 242 = .ok (.goto 4, 3) := by decide +kernel
theorem dX5_readsCitizen_245 : decode cX5_readsCitizen 245 = .ok (.iconst 0, 1) := by decide +kernel
theorem dX5_readsCitizen_246 : decode cX5_readsCitizen 246 = .ok (.ior, 1) := by decide +kernel
theorem dX5_readsCitizen_247 : decode cX5_readsCitizen 247 = .ok (.putfield 74, 3) := by decide +kernel
theorem dX5_readsCitizen_250 : decode cX5_readsCitizen 250 = .ok (.aload_n 0, 1) := by decide +kernel
theorem dX5_readsCitizen_251 : decode cX5_readsCitizen 251 = .ok (.dup, 1) := by decide +kernel
theorem dX5_readsCitizen_252 : decode cX5_readsCitizen 252 = .ok (.getfield 67, 3) := by decide +kernel
theorem dX5_readsCitizen_255 : decode cX5_readsCitizen 255 = .ok (.iconst 1, 1) := by decide +kernel
theorem dX5_readsCitizen_256 : decode cX5_readsCitizen 256 = .ok (.iadd, 1) := by decide +kernel
theorem dX5_readsCitizen_257 : decode cX5_readsCitizen 257 = .ok (.putfield 67, 3) := by decide +kernel
theorem dX5_readsCitizen_260 : decode cX5_readsCitizen 260 = .ok (.iconst 1, 1) := by decide +kernel
theorem dX5_readsCitizen_261 : decode cX5_readsCitizen 261 = .ok (.ireturn, 1) := by decide +kernel
set_option maxRecDepth 20000 in
theorem ggX5_readsRepublic_X5_codeAt : GoodIn wsX5_readsRepublic wsX5_codeAt := goodIn_r _ [10, 1, 11, 26, 27, 28, 29, 30, 31, 32, 33, 34, 35, 36, 37, 38, 39, 40, 41, 42, 43, 44, 45, 46, 47, 48, 49] (by decide +kernel) (by decide +kernel)
set_option maxRecDepth 20000 in
theorem gX5_readsRepublic_X5_codeAt : GoodIn wsX5_readsRepublic (wsV RX5 63 RX5 yX5_codeAt wsX5_codeAt) := goodIn_app (goodIn_of _ (by decide +kernel)) ggX5_readsRepublic_X5_codeAt
set_option maxRecDepth 20000 in
theorem ggX5_readsRepublic_X5_figure : GoodIn wsX5_readsRepublic wsX5_figure := goodIn_r _ [15, 1, 6, 7, 8, 9, 10, 11, 16, 17, 18, 26, 27, 28, 29, 30, 31, 32, 33, 34, 35, 36, 37, 38, 39, 40, 41, 42, 43, 44, 45, 46, 47, 48, 49] (by decide +kernel) (by decide +kernel)
set_option maxRecDepth 20000 in
theorem gX5_readsRepublic_X5_figure : GoodIn wsX5_readsRepublic (wsV RX5 70 RX5 yX5_figure wsX5_figure) := goodIn_app (goodIn_of _ (by decide +kernel)) ggX5_readsRepublic_X5_figure
set_option maxRecDepth 20000 in
theorem ggX5_readsRepublic_X5_readsCitizen : GoodIn wsX5_readsRepublic wsX5_readsCitizen := goodIn_r _ [22, 2, 1, 23, 24, 25, 3, 6, 7, 8, 9, 10, 11, 12, 13, 14, 15, 16, 17, 18, 26, 27, 28, 29, 30, 31, 32, 33, 34, 35, 36, 37, 38, 39, 40, 41, 42, 43, 44, 45, 46, 47, 48, 49] (by decide +kernel) (by decide +kernel)
set_option maxRecDepth 20000 in
theorem gX5_readsRepublic_X5_readsCitizen : GoodIn wsX5_readsRepublic (wsV RX5 83 RX5 yX5_readsCitizen wsX5_readsCitizen) := goodIn_app (goodIn_of _ (by decide +kernel)) ggX5_readsRepublic_X5_readsCitizen
theorem dX5_readsRepublic_0 : decode cX5_readsRepublic 0 = .ok (.aload_n 0, 1) := by decide +kernel
theorem dX5_readsRepublic_1 : decode cX5_readsRepublic 1 = .ok (.iconst 0, 1) := by decide +kernel
theorem dX5_readsRepublic_2 : decode cX5_readsRepublic 2 = .ok (.putfield 60, 3) := by decide +kernel
theorem dX5_readsRepublic_5 : decode cX5_readsRepublic 5 = .ok (.aload_n 0, 1) := by decide +kernel
theorem dX5_readsRepublic_6 : decode cX5_readsRepublic 6 = .ok (.iconst 0, 1) := by decide +kernel
theorem dX5_readsRepublic_7 : decode cX5_readsRepublic 7 = .ok (.putfield 67, 3) := by decide +kernel
theorem dX5_readsRepublic_10 : decode cX5_readsRepublic 10 = .ok (.aload_n 0, 1) := by decide +kernel
theorem dX5_readsRepublic_11 : decode cX5_readsRepublic 11 = .ok (.iconst 0, 1) := by decide +kernel
theorem dX5_readsRepublic_12 : decode cX5_readsRepublic 12 = .ok (.putfield 74, 3) := by decide +kernel
theorem dX5_readsRepublic_15 : decode cX5_readsRepublic 15 = .ok (.aload_n 0, 1) := by decide +kernel
theorem dX5_readsRepublic_16 : decode cX5_readsRepublic 16 = .ok (.iload_n 1, 1) := by decide +kernel
theorem dX5_readsRepublic_17 : decode cX5_readsRepublic 17 = .ok (.iload_n 2, 1) := by decide +kernel
theorem dX5_readsRepublic_18 : decode cX5_readsRepublic 18 = .ok (.invokevirtual 63, 3) := by decide +kernel
theorem dX5_readsRepublic_21 : decode cX5_readsRepublic 21 = .ok (.bipush 108, 2) := by decide +kernel
theorem dX5_readsRepublic_23 : decode cX5_readsRepublic 23 = .ok (.if_icmp .ne 7, 3) := by decide +kernel
theorem dX5_readsRepublic_26 : decode cX5_readsRepublic 26 = .ok (.iconst 1, 1) := by decide +kernel
theorem dX5_readsRepublic_27 : decode cX5_readsRepublic 27 = .ok (.goto 4, 3) := by decide +kernel
theorem dX5_readsRepublic_30 : decode cX5_readsRepublic 30 = .ok (.iconst 0, 1) := by decide +kernel
theorem dX5_readsRepublic_31 : decode cX5_readsRepublic 31 = .ok (.istore_n 3, 1) := by decide +kernel
theorem dX5_readsRepublic_32 : decode cX5_readsRepublic 32 = .ok (.aload_n 0, 1) := by decide +kernel
theorem dX5_readsRepublic_33 : decode cX5_readsRepublic 33 = .ok (.dup, 1) := by decide +kernel
theorem dX5_readsRepublic_34 : decode cX5_readsRepublic 34 = .ok (.getfield 60, 3) := by decide +kernel
theorem dX5_readsRepublic_37 : decode cX5_readsRepublic 37 = .ok (.iload_n 3, 1) := by decide +kernel
theorem dX5_readsRepublic_38 : decode cX5_readsRepublic 38 = .ok (.ifCond .eq 7, 3) := by decide +kernel
theorem dX5_readsRepublic_41 : decode cX5_readsRepublic 41 = .ok (.iconst 1, 1) := by decide +kernel
theorem dX5_readsRepublic_42 : decode cX5_readsRepublic 42 = .ok (.goto 4, 3) := by decide +kernel
theorem dX5_readsRepublic_45 : decode cX5_readsRepublic 45 = .ok (.iconst 0, 1) := by decide +kernel
theorem dX5_readsRepublic_46 : decode cX5_readsRepublic 46 = .ok (.iadd, 1) := by decide +kernel
theorem dX5_readsRepublic_47 : decode cX5_readsRepublic 47 = .ok (.putfield 60, 3) := by decide +kernel
theorem dX5_readsRepublic_50 : decode cX5_readsRepublic 50 = .ok (.aload_n 0, 1) := by decide +kernel
theorem dX5_readsRepublic_51 : decode cX5_readsRepublic 51 = .ok (.iload_n 3, 1) := by decide +kernel
theorem dX5_readsRepublic_52 : decode cX5_readsRepublic 52 = .ok (.ifCond .eq 15, 3) := by decide +kernel
theorem dX5_readsRepublic_55 : decode cX5_readsRepublic 55 = .ok (.aload_n 0, 1) := by decide +kernel
theorem dX5_readsRepublic_56 : decode cX5_readsRepublic 56 = .ok (.iload_n 1, 1) := by decide +kernel
theorem dX5_readsRepublic_57 : decode cX5_readsRepublic 57 = .ok (.iload_n 2, 1) := by decide +kernel
theorem dX5_readsRepublic_58 : decode cX5_readsRepublic 58 = .ok (.iconst 0, 1) := by decide +kernel
theorem dX5_readsRepublic_59 : decode cX5_readsRepublic 59 = .ok (.bipush 6, 2) := by decide +kernel
theorem dX5_readsRepublic_61 : decode cX5_readsRepublic 61 = .ok (.invokevirtual 70, 3) := by decide +kernel
theorem dX5_readsRepublic_64 : decode cX5_readsRepublic 64 = .ok (.goto 5, 3) := by decide +kernel
theorem dX5_readsRepublic_67 : decode cX5_readsRepublic 67 = .ok (.bipush (-9), 2) := by decide +kernel
theorem dX5_readsRepublic_69 : decode cX5_readsRepublic 69 = .ok (.putfield 77, 3) := by decide +kernel
theorem dX5_readsRepublic_72 : decode cX5_readsRepublic 72 = .ok (.aload_n 0, 1) := by decide +kernel
theorem dX5_readsRepublic_73 : decode cX5_readsRepublic 73 = .ok (.aload_n 0, 1) := by decide +kernel
theorem dX5_readsRepublic_74 : decode cX5_readsRepublic 74 = .ok (.getfield 77, 3) := by decide +kernel
theorem dX5_readsRepublic_77 : decode cX5_readsRepublic 77 = .ok (.ifCond .lt 15, 3) := by decide +kernel
theorem dX5_readsRepublic_80 : decode cX5_readsRepublic 80 = .ok (.aload_n 0, 1) := by decide +kernel
theorem dX5_readsRepublic_81 : decode cX5_readsRepublic 81 = .ok (.iload_n 1, 1) := by decide +kernel
theorem dX5_readsRepublic_82 : decode cX5_readsRepublic 82 = .ok (.iload_n 2, 1) := by decide +kernel
theorem dX5_readsRepublic_83 : decode cX5_readsRepublic 83 = .ok (.iconst 1, 1) := by decide +kernel
theorem dX5_readsRepublic_84 : decode cX5_readsRepublic 84 = .ok (.bipush 9, 2) := by decide +kernel
theorem dX5_readsRepublic_86 : decode cX5_readsRepublic 86 = .ok (.invokevirtual 70, 3) := by decide +kernel
theorem dX5_readsRepublic_89 : decode cX5_readsRepublic 89 = .ok (.goto 5, 3) := by decide +kernel
theorem dX5_readsRepublic_92 : decode cX5_readsRepublic 92 = .ok (.bipush (-9), 2) := by decide +kernel
theorem dX5_readsRepublic_94 : decode cX5_readsRepublic 94 = .ok (.putfield 80, 3) := by decide +kernel
theorem dX5_readsRepublic_97 : decode cX5_readsRepublic 97 = .ok (.aload_n 0, 1) := by decide +kernel
theorem dX5_readsRepublic_98 : decode cX5_readsRepublic 98 = .ok (.getfield 80, 3) := by decide +kernel
theorem dX5_readsRepublic_101 : decode cX5_readsRepublic 101 = .ok (.ifCond .le 7, 3) := by decide +kernel
theorem dX5_readsRepublic_104 : decode cX5_readsRepublic 104 = .ok (.iconst 1, 1) := by decide +kernel
theorem dX5_readsRepublic_105 : decode cX5_readsRepublic 105 = .ok (.goto 4, 3) := by decide +kernel
theorem dX5_readsRepublic_108 : decode cX5_readsRepublic 108 = .ok (.iconst 0, 1) := by decide +kernel
theorem dX5_readsRepublic_109 : decode cX5_readsRepublic 109 = .ok (.istore_n 3, 1) := by decide +kernel
theorem dX5_readsRepublic_110 : decode cX5_readsRepublic 110 = .ok (.iload_n 3, 1) := by decide +kernel
theorem dX5_readsRepublic_111 : decode cX5_readsRepublic 111 = .ok (.ifCond .eq 28, 3) := by decide +kernel
theorem dX5_readsRepublic_114 : decode cX5_readsRepublic 114 = .ok (.aload_n 0, 1) := by decide +kernel
theorem dX5_readsRepublic_115 : decode cX5_readsRepublic 115 = .ok (.getfield 67, 3) := by decide +kernel
theorem dX5_readsRepublic_118 : decode cX5_readsRepublic 118 = .ok (.ifCond .eq 11, 3) := by decide +kernel
theorem dX5_readsRepublic_121 : decode cX5_readsRepublic 121 = .ok (.aload_n 0, 1) := by decide +kernel
theorem dX5_readsRepublic_122 : decode cX5_readsRepublic 122 = .ok (.getfield 60, 3) := by decide +kernel
theorem dX5_readsRepublic_125 : decode cX5_readsRepublic 125 = .ok (.iload_n 2, 1) := by decide +kernel
theorem dX5_readsRepublic_126 : decode cX5_readsRepublic 126 = .ok (.if_icmp .ge 13, 3) := by decide +kernel
theorem dX5_readsRepublic_129 : decode cX5_readsRepublic 129 = .ok (.aload_n 0, 1) := by decide +kernel
theorem dX5_readsRepublic_130 : decode cX5_readsRepublic 130 = .ok (.iload_n 1, 1) := by decide +kernel
theorem dX5_readsRepublic_131 : decode cX5_readsRepublic 131 = .ok (.iload_n 2, 1) := by decide +kernel
theorem dX5_readsRepublic_132 : decode cX5_readsRepublic 132 = .ok (.invokevirtual 83, 3) := by decide +kernel
theorem dX5_readsRepublic_135 : decode cX5_readsRepublic 135 = .ok (.istore_n 3, 1) := by decide +kernel
theorem dX5_readsRepublic_136 : decode cX5_readsRepublic 136 = .ok (.goto (-26), 3) := by decide +kernel
theorem dX5_readsRepublic_139 : decode cX5_readsRepublic 139 = .ok (.iload_n 3, 1) := by decide +kernel
theorem dX5_readsRepublic_140 : decode cX5_readsRepublic 140 = .ok (.ireturn, 1) := by decide +kernel
set_option maxRecDepth 20000 in
theorem ggX5_cellsBarred_X5_failed : GoodIn wsX5_cellsBarred wsX5_failed := goodIn_r _ [7, 8, 12, 13, 14, 15, 16, 17, 18, 19, 20, 21, 22, 23, 24, 25, 26, 27, 28, 29, 30, 31, 32, 33, 34, 35] (by decide +kernel) (by decide +kernel)
set_option maxRecDepth 20000 in
theorem gX5_cellsBarred_X5_failed : GoodIn wsX5_cellsBarred (wsV RX5 87 RX5 yX5_failed wsX5_failed) := goodIn_app (goodIn_of _ (by decide +kernel)) ggX5_cellsBarred_X5_failed
set_option maxRecDepth 20000 in
theorem ggX5_cellsBarred_X5_isBeyond : GoodIn wsX5_cellsBarred wsX5_isBeyond := goodIn_r _ [11] (by decide +kernel) (by decide +kernel)
set_option maxRecDepth 20000 in
theorem gX5_cellsBarred_X5_isBeyond : GoodIn wsX5_cellsBarred (va_wsS RX5 91 yX5_isBeyond wsX5_isBeyond) := goodIn_app (goodIn_of _ (by decide +kernel)) ggX5_cellsBarred_X5_isBeyond
theorem dX5_cellsBarred_0 : decode cX5_cellsBarred 0 = .ok (.aload_n 0, 1) := by decide +kernel
theorem dX5_cellsBarred_1 : decode cX5_cellsBarred 1 = .ok (.getfield 31, 3) := by decide +kernel
theorem dX5_cellsBarred_4 : decode cX5_cellsBarred 4 = .ok (.iload_n 1, 1) := by decide +kernel
theorem dX5_cellsBarred_5 : decode cX5_cellsBarred 5 = .ok (.iaload, 1) := by decide +kernel
theorem dX5_cellsBarred_6 : decode cX5_cellsBarred 6 = .ok (.ifCond .lt 19, 3) := by decide +kernel
theorem dX5_cellsBarred_9 : decode cX5_cellsBarred 9 = .ok (.aload_n 0, 1) := by decide +kernel
theorem dX5_cellsBarred_10 : decode cX5_cellsBarred 10 = .ok (.getfield 34, 3) := by decide +kernel
theorem dX5_cellsBarred_13 : decode cX5_cellsBarred 13 = .ok (.iload_n 1, 1) := by decide +kernel
theorem dX5_cellsBarred_14 : decode cX5_cellsBarred 14 = .ok (.iaload, 1) := by decide +kernel
theorem dX5_cellsBarred_15 : decode cX5_cellsBarred 15 = .ok (.iload_n 2, 1) := by decide +kernel
theorem dX5_cellsBarred_16 : decode cX5_cellsBarred 16 = .ok (.if_icmp .eq 9, 3) := by decide +kernel
theorem dX5_cellsBarred_19 : decode cX5_cellsBarred 19 = .ok (.aload_n 0, 1) := by decide +kernel
theorem dX5_cellsBarred_20 : decode cX5_cellsBarred 20 = .ok (.iconst 2, 1) := by decide +kernel
theorem dX5_cellsBarred_21 : decode cX5_cellsBarred 21 = .ok (.invokevirtual 87, 3) := by decide +kernel
theorem dX5_cellsBarred_24 : decode cX5_cellsBarred 24 = .ok (.ireturn, 1) := by decide +kernel
theorem dX5_cellsBarred_25 : decode cX5_cellsBarred 25 = .ok (.aload_n 0, 1) := by decide +kernel
theorem dX5_cellsBarred_26 : decode cX5_cellsBarred 26 = .ok (.getfield 31, 3) := by decide +kernel
theorem dX5_cellsBarred_29 : decode cX5_cellsBarred 29 = .ok (.iload_n 1, 1) := by decide +kernel
theorem dX5_cellsBarred_30 : decode cX5_cellsBarred 30 = .ok (.iaload, 1) := by decide +kernel
theorem dX5_cellsBarred_31 : decode cX5_cellsBarred 31 = .ok (.ifCond .ge 9, 3) := by decide +kernel
theorem dX5_cellsBarred_34 : decode cX5_cellsBarred 34 = .ok (.aload_n 0, 1) := by decide +kernel
theorem dX5_cellsBarred_35 : decode cX5_cellsBarred 35 = .ok (.iconst 1, 1) := by decide +kernel
theorem dX5_cellsBarred_36 : decode cX5_cellsBarred 36 = .ok (.invokevirtual 87, 3) := by decide +kernel
theorem dX5_cellsBarred_39 : decode cX5_cellsBarred 39 = .ok (.ireturn, 1) := by decide +kernel
theorem dX5_cellsBarred_40 : decode cX5_cellsBarred 40 = .ok (.lload 4, 2) := by decide +kernel
theorem dX5_cellsBarred_42 : decode cX5_cellsBarred 42 = .ok (.lconst 0, 1) := by decide +kernel
theorem dX5_cellsBarred_43 : decode cX5_cellsBarred 43 = .ok (.lcmp, 1) := by decide +kernel
theorem dX5_cellsBarred_44 : decode cX5_cellsBarred 44 = .ok (.ifCond .ge 9, 3) := by decide +kernel
theorem dX5_cellsBarred_47 : decode cX5_cellsBarred 47 = .ok (.aload_n 0, 1) := by decide +kernel
theorem dX5_cellsBarred_48 : decode cX5_cellsBarred 48 = .ok (.iconst 4, 1) := by decide +kernel
theorem dX5_cellsBarred_49 : decode cX5_cellsBarred 49 = .ok (.invokevirtual 87, 3) := by decide +kernel
theorem dX5_cellsBarred_52 : decode cX5_cellsBarred 52 = .ok (.ireturn, 1) := by decide +kernel
theorem dX5_cellsBarred_53 : decode cX5_cellsBarred 53 = .ok (.iload_n 3, 1) := by decide +kernel
theorem dX5_cellsBarred_54 : decode cX5_cellsBarred 54 = .ok (.lload 4, 2) := by decide +kernel
theorem dX5_cellsBarred_56 : decode cX5_cellsBarred 56 = .ok (.aload_n 0, 1) := by decide +kernel
theorem dX5_cellsBarred_57 : decode cX5_cellsBarred 57 = .ok (.getfield 31, 3) := by decide +kernel
theorem dX5_cellsBarred_60 : decode cX5_cellsBarred 60 = .ok (.iload_n 1, 1) := by decide +kernel
theorem dX5_cellsBarred_61 : decode cX5_cellsBarred 61 = .ok (.iaload, 1) := by decide +kernel
theorem dX5_cellsBarred_62 : decode cX5_cellsBarred 62 = .ok (.invokestatic 91, 3) := by decide +kernel
theorem dX5_cellsBarred_65 : decode cX5_cellsBarred 65 = .ok (.ifCond .eq 11, 3) := by decide +kernel
theorem dX5_cellsBarred_68 : decode cX5_cellsBarred 68 = .ok (.aload_n 0, 1) := by decide +kernel
theorem dX5_cellsBarred_69 : decode cX5_cellsBarred 69 = .ok (.iconst 3, 1) := by decide +kernel
theorem dX5_cellsBarred_70 : decode cX5_cellsBarred 70 = .ok (.invokevirtual 87, 3) := by decide +kernel
theorem dX5_cellsBarred_73 : decode cX5_cellsBarred 73 = .ok (.goto 4, 3) := by decide +kernel
theorem dX5_cellsBarred_76 : decode cX5_cellsBarred 76 = .ok (.iconst 0, 1) := by decide +kernel
theorem dX5_cellsBarred_77 : decode cX5_cellsBarred 77 = .ok (.ireturn, 1) := by decide +kernel
set_option maxRecDepth 20000 in
theorem ggX5_republic_X5_noSheet : GoodIn wsX5_republic wsX5_noSheet := goodIn_r _ [21, 22, 23, 24, 20, 25] (by decide +kernel) (by decide +kernel)
set_option maxRecDepth 20000 in
theorem gX5_republic_X5_noSheet : GoodIn wsX5_republic (va_wsS RX5 95 yX5_noSheet wsX5_noSheet) := goodIn_app (goodIn_of _ (by decide +kernel)) ggX5_republic_X5_noSheet
set_option maxRecDepth 20000 in
theorem ggX5_republic_X5_refused : GoodIn wsX5_republic wsX5_refused := goodIn_r _ [29, 30, 61, 62, 63, 64, 65, 66, 67, 68, 69, 70, 71, 72, 73, 74, 75, 76, 77, 78, 79, 80, 81, 82, 83, 84] (by decide +kernel) (by decide +kernel)
set_option maxRecDepth 20000 in
theorem gX5_republic_X5_refused : GoodIn wsX5_republic (wsV RX5 99 RX5 yX5_refused wsX5_refused) := goodIn_app (goodIn_of _ (by decide +kernel)) ggX5_republic_X5_refused
set_option maxRecDepth 20000 in
theorem ggX5_republic_X5_in : GoodIn wsX5_republic wsX5_in := goodIn_r _ [25] (by decide +kernel) (by decide +kernel)
set_option maxRecDepth 20000 in
theorem gX5_republic_X5_in : GoodIn wsX5_republic (va_wsS RX5 56 yX5_in wsX5_in) := goodIn_app (goodIn_of _ (by decide +kernel)) ggX5_republic_X5_in
set_option maxRecDepth 20000 in
theorem ggX5_republic_X5_cellsBarred : GoodIn wsX5_republic wsX5_cellsBarred := goodIn_r _ [34, 35, 36, 37, 38, 39, 20, 40, 30, 41, 42, 43, 61, 62, 63, 64, 65, 66, 67, 68, 69, 70, 71, 72, 73, 74, 75, 76, 77, 78, 79, 80, 81, 82, 83, 84] (by decide +kernel) (by decide +kernel)
set_option maxRecDepth 20000 in
theorem gX5_republic_X5_cellsBarred : GoodIn wsX5_republic (wsV RX5 104 RX5 yX5_cellsBarred wsX5_cellsBarred) := goodIn_app (goodIn_of _ (by decide +kernel)) ggX5_republic_X5_cellsBarred
set_option maxRecDepth 20000 in
theorem ggX5_republic_X5_readsRepublic : GoodIn wsX5_republic wsX5_readsRepublic := goodIn_r _ [47, 2, 7, 9, 3, 5, 48, 49, 50, 20, 51, 52, 53, 54, 55, 56, 23, 24, 25, 57, 58, 59, 60, 12, 14, 16, 61, 62, 63, 64, 65, 66, 67, 68, 69, 70, 71, 72, 73, 74, 75, 76, 77, 78, 79, 80, 81, 82, 83, 84] (by decide +kernel) (by decide +kernel)
set_option maxRecDepth 20000 in
theorem gX5_republic_X5_readsRepublic : GoodIn wsX5_republic (wsV RX5 108 RX5 yX5_readsRepublic wsX5_readsRepublic) := goodIn_app (goodIn_of _ (by decide +kernel)) ggX5_republic_X5_readsRepublic
theorem dX5_republic_0 : decode cX5_republic 0 = .ok (.iload_n 1, 1) := by decide +kernel
theorem dX5_republic_1 : decode cX5_republic 1 = .ok (.invokestatic 95, 3) := by decide +kernel
theorem dX5_republic_4 : decode cX5_republic 4 = .ok (.ifCond .eq 9, 3) := by decide +kernel
theorem dX5_republic_7 : decode cX5_republic 7 = .ok (.aload_n 0, 1) := by decide +kernel
theorem dX5_republic_8 : decode cX5_republic 8 = .ok (.iconst (-1), 1) := by decide +kernel
theorem dX5_republic_9 : decode cX5_republic 9 = .ok (.invokevirtual 99, 3) := by decide +kernel
theorem dX5_republic_12 : decode cX5_republic 12 = .ok (.ireturn, 1) := by decide +kernel
theorem dX5_republic_13 : decode cX5_republic 13 = .ok (.iload_n 2, 1) := by decide +kernel
theorem dX5_republic_14 : decode cX5_republic 14 = .ok (.i2l, 1) := by decide +kernel
theorem dX5_republic_15 : decode cX5_republic 15 = .ok (.lconst 0, 1) := by decide +kernel
theorem dX5_republic_16 : decode cX5_republic 16 = .ok (.ldc2_w 102, 3) := by decide +kernel
theorem dX5_republic_19 : decode cX5_republic 19 = .ok (.invokestatic 56, 3) := by decide +kernel
theorem dX5_republic_22 : decode cX5_republic 22 = .ok (.ifCond .ne 10, 3) := by decide +kernel
theorem dX5_republic_25 : decode cX5_republic 25 = .ok (.aload_n 0, 1) := by decide +kernel
theorem dX5_republic_26 : decode cX5_republic 26 = .ok (.bipush (-2), 2) := by decide +kernel
theorem dX5_republic_28 : decode cX5_republic 28 = .ok (.invokevirtual 99, 3) := by decide +kernel
theorem dX5_republic_31 : decode cX5_republic 31 = .ok (.ireturn, 1) := by decide +kernel
theorem dX5_republic_32 : decode cX5_republic 32 = .ok (.aload_n 0, 1) := by decide +kernel
theorem dX5_republic_33 : decode cX5_republic 33 = .ok (.iload_n 1, 1) := by decide +kernel
theorem dX5_republic_34 : decode cX5_republic 34 = .ok (.iload_n 2, 1) := by decide +kernel
theorem dX5_republic_35 : decode cX5_republic 35 = .ok (.iload_n 3, 1) := by decide +kernel
theorem dX5_republic_36 : decode cX5_republic 36 = .ok (.iload 4, 2) := by decide +kernel
theorem dX5_republic_38 : decode cX5_republic 38 = .ok (.i2l, 1) := by decide +kernel
theorem dX5_republic_39 : decode cX5_republic 39 = .ok (.invokevirtual 104, 3) := by decide +kernel
theorem dX5_republic_42 : decode cX5_republic 42 = .ok (.istore 5, 2) := by decide +kernel
theorem dX5_republic_44 : decode cX5_republic 44 = .ok (.iload 5, 2) := by decide +kernel
theorem dX5_republic_46 : decode cX5_republic 46 = .ok (.ifCond .ge 6, 3) := by decide +kernel
theorem dX5_republic_49 : decode cX5_republic 49 = .ok (.iload 5, 2) := by decide +kernel
theorem dX5_republic_51 : decode cX5_republic 51 = .ok (.ireturn, 1) := by decide +kernel
theorem dX5_republic_52 : decode cX5_republic 52 = .ok (.aload_n 0, 1) := by decide +kernel
theorem dX5_republic_53 : decode cX5_republic 53 = .ok (.bipush 60, 2) := by decide +kernel
theorem dX5_republic_55 : decode cX5_republic 55 = .ok (.iload_n 1, 1) := by decide +kernel
theorem dX5_republic_56 : decode cX5_republic 56 = .ok (.imul, 1) := by decide +kernel
theorem dX5_republic_57 : decode cX5_republic 57 = .ok (.iload_n 3, 1) := by decide +kernel
theorem dX5_republic_58 : decode cX5_republic 58 = .ok (.iadd, 1) := by decide +kernel
theorem dX5_republic_59 : decode cX5_republic 59 = .ok (.iload 4, 2) := by decide +kernel
theorem dX5_republic_61 : decode cX5_republic 61 = .ok (.invokevirtual 108, 3) := by decide +kernel
theorem dX5_republic_64 : decode cX5_republic 64 = .ok (.ifCond .ne 15, 3) := by decide +kernel
theorem dX5_republic_67 : decode cX5_republic 67 = .ok (.aload_n 0, 1) := by decide +kernel
theorem dX5_republic_68 : decode cX5_republic 68 = .ok (.bipush (-100), 2) := by decide +kernel
theorem dX5_republic_70 : decode cX5_republic 70 = .ok (.aload_n 0, 1) := by decide +kernel
theorem dX5_republic_71 : decode cX5_republic 71 = .ok (.getfield 60, 3) := by decide +kernel
theorem dX5_republic_74 : decode cX5_republic 74 = .ok (.isub, 1) := by decide +kernel
theorem dX5_republic_75 : decode cX5_republic 75 = .ok (.invokevirtual 99, 3) := by decide +kernel
theorem dX5_republic_78 : decode cX5_republic 78 = .ok (.ireturn, 1) := by decide +kernel
theorem dX5_republic_79 : decode cX5_republic 79 = .ok (.aload_n 0, 1) := by decide +kernel
theorem dX5_republic_80 : decode cX5_republic 80 = .ok (.aload_n 0, 1) := by decide +kernel
theorem dX5_republic_81 : decode cX5_republic 81 = .ok (.getfield 77, 3) := by decide +kernel
theorem dX5_republic_84 : decode cX5_republic 84 = .ok (.putfield 111, 3) := by decide +kernel
theorem dX5_republic_87 : decode cX5_republic 87 = .ok (.aload_n 0, 1) := by decide +kernel
theorem dX5_republic_88 : decode cX5_republic 88 = .ok (.aload_n 0, 1) := by decide +kernel
theorem dX5_republic_89 : decode cX5_republic 89 = .ok (.getfield 80, 3) := by decide +kernel
theorem dX5_republic_92 : decode cX5_republic 92 = .ok (.putfield 114, 3) := by decide +kernel
theorem dX5_republic_95 : decode cX5_republic 95 = .ok (.aload_n 0, 1) := by decide +kernel
theorem dX5_republic_96 : decode cX5_republic 96 = .ok (.aload_n 0, 1) := by decide +kernel
theorem dX5_republic_97 : decode cX5_republic 97 = .ok (.getfield 67, 3) := by decide +kernel
theorem dX5_republic_100 : decode cX5_republic 100 = .ok (.putfield 53, 3) := by decide +kernel
theorem dX5_republic_103 : decode cX5_republic 103 = .ok (.aload_n 0, 1) := by decide +kernel
theorem dX5_republic_104 : decode cX5_republic 104 = .ok (.aload_n 0, 1) := by decide +kernel
theorem dX5_republic_105 : decode cX5_republic 105 = .ok (.getfield 74, 3) := by decide +kernel
theorem dX5_republic_108 : decode cX5_republic 108 = .ok (.putfield 117, 3) := by decide +kernel
theorem dX5_republic_111 : decode cX5_republic 111 = .ok (.iconst 0, 1) := by decide +kernel
theorem dX5_republic_112 : decode cX5_republic 112 = .ok (.istore 6, 2) := by decide +kernel
theorem dX5_republic_114 : decode cX5_republic 114 = .ok (.iload 6, 2) := by decide +kernel
theorem dX5_republic_116 : decode cX5_republic 116 = .ok (.aload_n 0, 1) := by decide +kernel
theorem dX5_republic_117 : decode cX5_republic 117 = .ok (.getfield 53, 3) := by decide +kernel
theorem dX5_republic_120 : decode cX5_republic 120 = .ok (.if_icmp .ge 51, 3) := by decide +kernel
theorem dX5_republic_123 : decode cX5_republic 123 = .ok (.aload_n 0, 1) := by decide +kernel
theorem dX5_republic_124 : decode cX5_republic 124 = .ok (.getfield 7, 3) := by decide +kernel
theorem dX5_republic_127 : decode cX5_republic 127 = .ok (.iload 6, 2) := by decide +kernel
theorem dX5_republic_129 : decode cX5_republic 129 = .ok (.aload_n 0, 1) := by decide +kernel
theorem dX5_republic_130 : decode cX5_republic 130 = .ok (.getfield 19, 3) := by decide +kernel
theorem dX5_republic_133 : decode cX5_republic 133 = .ok (.iload 6, 2) := by decide +kernel
theorem dX5_republic_135 : decode cX5_republic 135 = .ok (.iaload, 1) := by decide +kernel
theorem dX5_republic_136 : decode cX5_republic 136 = .ok (.iastore, 1) := by decide +kernel
theorem dX5_republic_137 : decode cX5_republic 137 = .ok (.aload_n 0, 1) := by decide +kernel
theorem dX5_republic_138 : decode cX5_republic 138 = .ok (.getfield 13, 3) := by decide +kernel
theorem dX5_republic_141 : decode cX5_republic 141 = .ok (.iload 6, 2) := by decide +kernel
theorem dX5_republic_143 : decode cX5_republic 143 = .ok (.aload_n 0, 1) := by decide +kernel
theorem dX5_republic_144 : decode cX5_republic 144 = .ok (.getfield 22, 3) := by decide +kernel
theorem dX5_republic_147 : decode cX5_republic 147 = .ok (.iload 6, 2) := by decide +kernel
theorem dX5_republic_149 : decode cX5_republic 149 = .ok (.iaload, 1) := by decide +kernel
theorem dX5_republic_150 : decode cX5_republic 150 = .ok (.iastore, 1) := by decide +kernel
theorem dX5_republic_151 : decode cX5_republic 151 = .ok (.aload_n 0, 1) := by decide +kernel
theorem dX5_republic_152 : decode cX5_republic 152 = .ok (.getfield 16, 3) := by decide +kernel
theorem dX5_republic_155 : decode cX5_republic 155 = .ok (.iload 6, 2) := by decide +kernel
theorem dX5_republic_157 : decode cX5_republic 157 = .ok (.aload_n 0, 1) := by decide +kernel
theorem dX5_republic_158 : decode cX5_republic 158 = .ok (.getfield 25, 3) := by decide +kernel
theorem dX5_republic_161 : decode cX5_republic 161 = .ok (.iload 6, 2) := by decide +kernel
theorem dX5_republic_163 : decode cX5_republic 163 = .ok (.iaload, 1) := by decide +kernel
theorem dX5_republic_164 : decode cX5_republic 164 = .ok (.iastore, 1) := by decide +kernel
theorem dX5_republic_165 : decode cX5_republic 165 = .ok (.iinc 6 1, 3) := by decide +kernel
theorem dX5_republic_168 : decode cX5_republic 168 = .ok (.goto (-54), 3) := by decide +kernel
theorem dX5_republic_171 : decode cX5_republic 171 = .ok (.aload_n 0, 1) := by decide +kernel
theorem dX5_republic_172 : decode cX5_republic 172 = .ok (.iconst 0, 1) := by decide +kernel
theorem dX5_republic_173 : decode cX5_republic 173 = .ok (.putfield 120, 3) := by decide +kernel
theorem dX5_republic_176 : decode cX5_republic 176 = .ok (.aload_n 0, 1) := by decide +kernel
theorem dX5_republic_177 : decode cX5_republic 177 = .ok (.aload_n 0, 1) := by decide +kernel
theorem dX5_republic_178 : decode cX5_republic 178 = .ok (.getfield 53, 3) := by decide +kernel
theorem dX5_republic_181 : decode cX5_republic 181 = .ok (.invokevirtual 99, 3) := by decide +kernel
theorem dX5_republic_184 : decode cX5_republic 184 = .ok (.ireturn, 1) := by decide +kernel
theorem dX5_slipsOf_0 : decode cX5_slipsOf 0 = .ok (.aload_n 0, 1) := by decide +kernel
theorem dX5_slipsOf_1 : decode cX5_slipsOf 1 = .ok (.getfield 13, 3) := by decide +kernel
theorem dX5_slipsOf_4 : decode cX5_slipsOf 4 = .ok (.iload_n 1, 1) := by decide +kernel
theorem dX5_slipsOf_5 : decode cX5_slipsOf 5 = .ok (.iaload, 1) := by decide +kernel
theorem dX5_slipsOf_6 : decode cX5_slipsOf 6 = .ok (.istore_n 2, 1) := by decide +kernel
theorem dX5_slipsOf_7 : decode cX5_slipsOf 7 = .ok (.aload_n 0, 1) := by decide +kernel
theorem dX5_slipsOf_8 : decode cX5_slipsOf 8 = .ok (.getfield 7, 3) := by decide +kernel
theorem dX5_slipsOf_11 : decode cX5_slipsOf 11 = .ok (.iload_n 1, 1) := by decide +kernel
theorem dX5_slipsOf_12 : decode cX5_slipsOf 12 = .ok (.iaload, 1) := by decide +kernel
theorem dX5_slipsOf_13 : decode cX5_slipsOf 13 = .ok (.ifCond .ne 7, 3) := by decide +kernel
theorem dX5_slipsOf_16 : decode cX5_slipsOf 16 = .ok (.iload_n 2, 1) := by decide +kernel
theorem dX5_slipsOf_17 : decode cX5_slipsOf 17 = .ok (.goto 24, 3) := by decide +kernel
theorem dX5_slipsOf_20 : decode cX5_slipsOf 20 = .ok (.aload_n 0, 1) := by decide +kernel
theorem dX5_slipsOf_21 : decode cX5_slipsOf 21 = .ok (.getfield 7, 3) := by decide +kernel
theorem dX5_slipsOf_24 : decode cX5_slipsOf 24 = .ok (.iload_n 1, 1) := by decide +kernel
theorem dX5_slipsOf_25 : decode cX5_slipsOf 25 = .ok (.iaload, 1) := by decide +kernel
theorem dX5_slipsOf_26 : decode cX5_slipsOf 26 = .ok (.iconst 1, 1) := by decide +kernel
theorem dX5_slipsOf_27 : decode cX5_slipsOf 27 = .ok (.if_icmp .ne 9, 3) := by decide +kernel
theorem dX5_slipsOf_30 : decode cX5_slipsOf 30 = .ok (.iload_n 2, 1) := by decide +kernel
theorem dX5_slipsOf_31 : decode cX5_slipsOf 31 = .ok (.iconst 1, 1) := by decide +kernel
theorem dX5_slipsOf_32 : decode cX5_slipsOf 32 = .ok (.iadd, 1) := by decide +kernel
theorem dX5_slipsOf_33 : decode cX5_slipsOf 33 = .ok (.goto 8, 3) := by decide +kernel
theorem dX5_slipsOf_36 : decode cX5_slipsOf 36 = .ok (.iconst 2, 1) := by decide +kernel
theorem dX5_slipsOf_37 : decode cX5_slipsOf 37 = .ok (.iload_n 2, 1) := by decide +kernel
theorem dX5_slipsOf_38 : decode cX5_slipsOf 38 = .ok (.iconst 1, 1) := by decide +kernel
theorem dX5_slipsOf_39 : decode cX5_slipsOf 39 = .ok (.iadd, 1) := by decide +kernel
theorem dX5_slipsOf_40 : decode cX5_slipsOf 40 = .ok (.imul, 1) := by decide +kernel
theorem dX5_slipsOf_41 : decode cX5_slipsOf 41 = .ok (.ireturn, 1) := by decide +kernel
set_option maxRecDepth 20000 in
theorem ggX5_slipsOfAll_X5_isIn : GoodIn wsX5_slipsOfAll wsX5_isIn := goodIn_r _ [5] (by decide +kernel) (by decide +kernel)
set_option maxRecDepth 20000 in
theorem gX5_slipsOfAll_X5_isIn : GoodIn wsX5_slipsOfAll (va_wsS RX5 123 yX5_isIn wsX5_isIn) := goodIn_app (goodIn_of _ (by decide +kernel)) ggX5_slipsOfAll_X5_isIn
set_option maxRecDepth 20000 in
theorem ggX5_slipsOfAll_X5_slipsOf : GoodIn wsX5_slipsOfAll wsX5_slipsOf := goodIn_r _ [9, 10, 11, 12, 13, 14, 15, 16, 17, 18, 19, 20, 21, 22, 23, 24, 25, 26, 27, 28, 29, 30, 31, 32, 33, 34, 35] (by decide +kernel) (by decide +kernel)
set_option maxRecDepth 20000 in
theorem gX5_slipsOfAll_X5_slipsOf : GoodIn wsX5_slipsOfAll (wsV RX5 126 RX5 yX5_slipsOf wsX5_slipsOf) := goodIn_app (goodIn_of _ (by decide +kernel)) ggX5_slipsOfAll_X5_slipsOf
theorem dX5_slipsOfAll_0 : decode cX5_slipsOfAll 0 = .ok (.iconst 0, 1) := by decide +kernel
theorem dX5_slipsOfAll_1 : decode cX5_slipsOfAll 1 = .ok (.istore_n 2, 1) := by decide +kernel
theorem dX5_slipsOfAll_2 : decode cX5_slipsOfAll 2 = .ok (.iconst 0, 1) := by decide +kernel
theorem dX5_slipsOfAll_3 : decode cX5_slipsOfAll 3 = .ok (.istore_n 3, 1) := by decide +kernel
theorem dX5_slipsOfAll_4 : decode cX5_slipsOfAll 4 = .ok (.iload_n 3, 1) := by decide +kernel
theorem dX5_slipsOfAll_5 : decode cX5_slipsOfAll 5 = .ok (.aload_n 0, 1) := by decide +kernel
theorem dX5_slipsOfAll_6 : decode cX5_slipsOfAll 6 = .ok (.getfield 53, 3) := by decide +kernel
theorem dX5_slipsOfAll_9 : decode cX5_slipsOfAll 9 = .ok (.if_icmp .ge 29, 3) := by decide +kernel
theorem dX5_slipsOfAll_12 : decode cX5_slipsOfAll 12 = .ok (.iload_n 2, 1) := by decide +kernel
theorem dX5_slipsOfAll_13 : decode cX5_slipsOfAll 13 = .ok (.iload_n 1, 1) := by decide +kernel
theorem dX5_slipsOfAll_14 : decode cX5_slipsOfAll 14 = .ok (.iload_n 3, 1) := by decide +kernel
theorem dX5_slipsOfAll_15 : decode cX5_slipsOfAll 15 = .ok (.invokestatic 123, 3) := by decide +kernel
theorem dX5_slipsOfAll_18 : decode cX5_slipsOfAll 18 = .ok (.ifCond .eq 11, 3) := by decide +kernel
theorem dX5_slipsOfAll_21 : decode cX5_slipsOfAll 21 = .ok (.aload_n 0, 1) := by decide +kernel
theorem dX5_slipsOfAll_22 : decode cX5_slipsOfAll 22 = .ok (.iload_n 3, 1) := by decide +kernel
theorem dX5_slipsOfAll_23 : decode cX5_slipsOfAll 23 = .ok (.invokevirtual 126, 3) := by decide +kernel
theorem dX5_slipsOfAll_26 : decode cX5_slipsOfAll 26 = .ok (.goto 4, 3) := by decide +kernel
theorem dX5_slipsOfAll_29 : decode cX5_slipsOfAll 29 = .ok (.iconst 0, 1) := by decide +kernel
theorem dX5_slipsOfAll_30 : decode cX5_slipsOfAll 30 = .ok (.iadd, 1) := by decide +kernel
theorem dX5_slipsOfAll_31 : decode cX5_slipsOfAll 31 = .ok (.istore_n 2, 1) := by decide +kernel
theorem dX5_slipsOfAll_32 : decode cX5_slipsOfAll 32 = .ok (.iinc 3 1, 3) := by decide +kernel
theorem dX5_slipsOfAll_35 : decode cX5_slipsOfAll 35 = .ok (.goto (-31), 3) := by decide +kernel
theorem dX5_slipsOfAll_38 : decode cX5_slipsOfAll 38 = .ok (.iload_n 2, 1) := by decide +kernel
theorem dX5_slipsOfAll_39 : decode cX5_slipsOfAll 39 = .ok (.ireturn, 1) := by decide +kernel
theorem dX5_drawnOf_0 : decode cX5_drawnOf 0 = .ok (.aload_n 0, 1) := by decide +kernel
theorem dX5_drawnOf_1 : decode cX5_drawnOf 1 = .ok (.getfield 111, 3) := by decide +kernel
theorem dX5_drawnOf_4 : decode cX5_drawnOf 4 = .ok (.iload_n 1, 1) := by decide +kernel
theorem dX5_drawnOf_5 : decode cX5_drawnOf 5 = .ok (.if_icmp .ge 10, 3) := by decide +kernel
theorem dX5_drawnOf_8 : decode cX5_drawnOf 8 = .ok (.aload_n 0, 1) := by decide +kernel
theorem dX5_drawnOf_9 : decode cX5_drawnOf 9 = .ok (.getfield 111, 3) := by decide +kernel
theorem dX5_drawnOf_12 : decode cX5_drawnOf 12 = .ok (.goto 4, 3) := by decide +kernel
theorem dX5_drawnOf_15 : decode cX5_drawnOf 15 = .ok (.iload_n 1, 1) := by decide +kernel
theorem dX5_drawnOf_16 : decode cX5_drawnOf 16 = .ok (.ireturn, 1) := by decide +kernel
set_option maxRecDepth 20000 in
theorem ggX5_ofCitizen_X5_noCitizen : GoodIn wsX5_ofCitizen wsX5_noCitizen := goodIn_r _ [9, 10, 11, 12, 8, 13, 25, 26, 27, 28, 29, 30, 31, 32, 33, 34, 35, 36, 37, 38, 39, 40, 41, 42, 43, 44, 45, 46, 47, 48] (by decide +kernel) (by decide +kernel)
set_option maxRecDepth 20000 in
theorem gX5_ofCitizen_X5_noCitizen : GoodIn wsX5_ofCitizen (wsV RX5 129 RX5 yX5_noCitizen wsX5_noCitizen) := goodIn_app (goodIn_of _ (by decide +kernel)) ggX5_ofCitizen_X5_noCitizen
set_option maxRecDepth 20000 in
theorem ggX5_ofCitizen_X5_isIn : GoodIn wsX5_ofCitizen wsX5_isIn := goodIn_r _ [16] (by decide +kernel) (by decide +kernel)
set_option maxRecDepth 20000 in
theorem gX5_ofCitizen_X5_isIn : GoodIn wsX5_ofCitizen (va_wsS RX5 123 yX5_isIn wsX5_isIn) := goodIn_app (goodIn_of _ (by decide +kernel)) ggX5_ofCitizen_X5_isIn
set_option maxRecDepth 20000 in
theorem ggX5_ofCitizen_X5_slipsOf : GoodIn wsX5_ofCitizen wsX5_slipsOf := goodIn_r _ [20, 2, 1, 25, 26, 27, 28, 29, 30, 31, 32, 33, 34, 35, 36, 37, 38, 39, 40, 41, 42, 43, 44, 45, 46, 47, 48] (by decide +kernel) (by decide +kernel)
set_option maxRecDepth 20000 in
theorem gX5_ofCitizen_X5_slipsOf : GoodIn wsX5_ofCitizen (wsV RX5 126 RX5 yX5_slipsOf wsX5_slipsOf) := goodIn_app (goodIn_of _ (by decide +kernel)) ggX5_ofCitizen_X5_slipsOf
set_option maxRecDepth 20000 in
theorem ggX5_ofCitizen_X5_slipsOfAll : GoodIn wsX5_ofCitizen wsX5_slipsOfAll := goodIn_r _ [24, 10, 14, 15, 8, 16, 17, 18, 19, 20, 2, 1, 25, 26, 27, 28, 29, 30, 31, 32, 33, 34, 35, 36, 37, 38, 39, 40, 41, 42, 43, 44, 45, 46, 47, 48] (by decide +kernel) (by decide +kernel)
set_option maxRecDepth 20000 in
theorem gX5_ofCitizen_X5_slipsOfAll : GoodIn wsX5_ofCitizen (wsV RX5 132 RX5 yX5_slipsOfAll wsX5_slipsOfAll) := goodIn_app (goodIn_of _ (by decide +kernel)) ggX5_ofCitizen_X5_slipsOfAll
theorem dX5_ofCitizen_0 : decode cX5_ofCitizen 0 = .ok (.aload_n 0, 1) := by decide +kernel
theorem dX5_ofCitizen_1 : decode cX5_ofCitizen 1 = .ok (.iload_n 1, 1) := by decide +kernel
theorem dX5_ofCitizen_2 : decode cX5_ofCitizen 2 = .ok (.invokevirtual 129, 3) := by decide +kernel
theorem dX5_ofCitizen_5 : decode cX5_ofCitizen 5 = .ok (.ifCond .eq 5, 3) := by decide +kernel
theorem dX5_ofCitizen_8 : decode cX5_ofCitizen 8 = .ok (.iconst (-1), 1) := by decide +kernel
theorem dX5_ofCitizen_9 : decode cX5_ofCitizen 9 = .ok (.ireturn, 1) := by decide +kernel
theorem dX5_ofCitizen_10 : decode cX5_ofCitizen 10 = .ok (.iload_n 2, 1) := by decide +kernel
theorem dX5_ofCitizen_11 : decode cX5_ofCitizen 11 = .ok (.tableswitch 91 0 5 #[37, 44, 51, 58, 75, 81], 37) := by decide +kernel
theorem dX5_ofCitizen_48 : decode cX5_ofCitizen 48 = .ok (.aload_n 0, 1) := by decide +kernel
theorem dX5_ofCitizen_49 : decode cX5_ofCitizen 49 = .ok (.getfield 7, 3) := by decide +kernel
theorem dX5_ofCitizen_52 : decode cX5_ofCitizen 52 = .ok (.iload_n 1, 1) := by decide +kernel
theorem dX5_ofCitizen_53 : decode cX5_ofCitizen 53 = .ok (.iaload, 1) := by decide +kernel
theorem dX5_ofCitizen_54 : decode cX5_ofCitizen 54 = .ok (.ireturn, 1) := by decide +kernel
theorem dX5_ofCitizen_55 : decode cX5_ofCitizen 55 = .ok (.aload_n 0, 1) := by decide +kernel
theorem dX5_ofCitizen_56 : decode cX5_ofCitizen 56 = .ok (.getfield 13, 3) := by decide +kernel
theorem dX5_ofCitizen_59 : decode cX5_ofCitizen 59 = .ok (.iload_n 1, 1) := by decide +kernel
theorem dX5_ofCitizen_60 : decode cX5_ofCitizen 60 = .ok (.iaload, 1) := by decide +kernel
theorem dX5_ofCitizen_61 : decode cX5_ofCitizen 61 = .ok (.ireturn, 1) := by decide +kernel
theorem dX5_ofCitizen_62 : decode cX5_ofCitizen 62 = .ok (.aload_n 0, 1) := by decide +kernel
theorem dX5_ofCitizen_63 : decode cX5_ofCitizen 63 = .ok (.getfield 16, 3) := by decide +kernel
theorem dX5_ofCitizen_66 : decode cX5_ofCitizen 66 = .ok (.iload_n 1, 1) := by decide +kernel
theorem dX5_ofCitizen_67 : decode cX5_ofCitizen 67 = .ok (.iaload, 1) := by decide +kernel
theorem dX5_ofCitizen_68 : decode cX5_ofCitizen 68 = .ok (.ireturn, 1) := by decide +kernel
theorem dX5_ofCitizen_69 : decode cX5_ofCitizen 69 = .ok (.aload_n 0, 1) := by decide +kernel
theorem dX5_ofCitizen_70 : decode cX5_ofCitizen 70 = .ok (.getfield 117, 3) := by decide +kernel
theorem dX5_ofCitizen_73 : decode cX5_ofCitizen 73 = .ok (.iload_n 1, 1) := by decide +kernel
theorem dX5_ofCitizen_74 : decode cX5_ofCitizen 74 = .ok (.invokestatic 123, 3) := by decide +kernel
theorem dX5_ofCitizen_77 : decode cX5_ofCitizen 77 = .ok (.ifCond .eq 7, 3) := by decide +kernel
theorem dX5_ofCitizen_80 : decode cX5_ofCitizen 80 = .ok (.iconst 1, 1) := by decide +kernel
theorem dX5_ofCitizen_81 : decode cX5_ofCitizen 81 = .ok (.goto 4, 3) := by decide +kernel
theorem dX5_ofCitizen_84 : decode cX5_ofCitizen 84 = .ok (.iconst 0, 1) := by decide +kernel
theorem dX5_ofCitizen_85 : decode cX5_ofCitizen 85 = .ok (.ireturn, 1) := by decide +kernel
theorem dX5_ofCitizen_86 : decode cX5_ofCitizen 86 = .ok (.aload_n 0, 1) := by decide +kernel
theorem dX5_ofCitizen_87 : decode cX5_ofCitizen 87 = .ok (.iload_n 1, 1) := by decide +kernel
theorem dX5_ofCitizen_88 : decode cX5_ofCitizen 88 = .ok (.invokevirtual 126, 3) := by decide +kernel
theorem dX5_ofCitizen_91 : decode cX5_ofCitizen 91 = .ok (.ireturn, 1) := by decide +kernel
theorem dX5_ofCitizen_92 : decode cX5_ofCitizen 92 = .ok (.aload_n 0, 1) := by decide +kernel
theorem dX5_ofCitizen_93 : decode cX5_ofCitizen 93 = .ok (.iconst 1, 1) := by decide +kernel
theorem dX5_ofCitizen_94 : decode cX5_ofCitizen 94 = .ok (.iload_n 1, 1) := by decide +kernel
theorem dX5_ofCitizen_95 : decode cX5_ofCitizen 95 = .ok (.ishl, 1) := by decide +kernel
theorem dX5_ofCitizen_96 : decode cX5_ofCitizen 96 = .ok (.iconst 1, 1) := by decide +kernel
theorem dX5_ofCitizen_97 : decode cX5_ofCitizen 97 = .ok (.isub, 1) := by decide +kernel
theorem dX5_ofCitizen_98 : decode cX5_ofCitizen 98 = .ok (.invokevirtual 132, 3) := by decide +kernel
theorem dX5_ofCitizen_101 : decode cX5_ofCitizen 101 = .ok (.ireturn, 1) := by decide +kernel
theorem dX5_ofCitizen_102 : decode cX5_ofCitizen 102 = .ok (.bipush (-2), 2) := by decide +kernel
theorem dX5_ofCitizen_104 : decode cX5_ofCitizen 104 = .ok (.ireturn, 1) := by decide +kernel
set_option maxRecDepth 20000 in
theorem ggX5_drawn_X5_in : GoodIn wsX5_drawn wsX5_in := goodIn_r _ [7] (by decide +kernel) (by decide +kernel)
set_option maxRecDepth 20000 in
theorem gX5_drawn_X5_in : GoodIn wsX5_drawn (va_wsS RX5 56 yX5_in wsX5_in) := goodIn_app (goodIn_of _ (by decide +kernel)) ggX5_drawn_X5_in
theorem dX5_drawn_0 : decode cX5_drawn 0 = .ok (.iload_n 1, 1) := by decide +kernel
theorem dX5_drawn_1 : decode cX5_drawn 1 = .ok (.i2l, 1) := by decide +kernel
theorem dX5_drawn_2 : decode cX5_drawn 2 = .ok (.lconst 0, 1) := by decide +kernel
theorem dX5_drawn_3 : decode cX5_drawn 3 = .ok (.ldc2_w 135, 3) := by decide +kernel
theorem dX5_drawn_6 : decode cX5_drawn 6 = .ok (.invokestatic 56, 3) := by decide +kernel
theorem dX5_drawn_9 : decode cX5_drawn 9 = .ok (.ifCond .ne 6, 3) := by decide +kernel
theorem dX5_drawn_12 : decode cX5_drawn 12 = .ok (.bipush (-2), 2) := by decide +kernel
theorem dX5_drawn_14 : decode cX5_drawn 14 = .ok (.ireturn, 1) := by decide +kernel
theorem dX5_drawn_15 : decode cX5_drawn 15 = .ok (.aload_n 0, 1) := by decide +kernel
theorem dX5_drawn_16 : decode cX5_drawn 16 = .ok (.getfield 53, 3) := by decide +kernel
theorem dX5_drawn_19 : decode cX5_drawn 19 = .ok (.ifCond .ne 6, 3) := by decide +kernel
theorem dX5_drawn_22 : decode cX5_drawn 22 = .ok (.bipush (-3), 2) := by decide +kernel
theorem dX5_drawn_24 : decode cX5_drawn 24 = .ok (.ireturn, 1) := by decide +kernel
theorem dX5_drawn_25 : decode cX5_drawn 25 = .ok (.aload_n 0, 1) := by decide +kernel
theorem dX5_drawn_26 : decode cX5_drawn 26 = .ok (.getfield 111, 3) := by decide +kernel
theorem dX5_drawn_29 : decode cX5_drawn 29 = .ok (.istore_n 2, 1) := by decide +kernel
theorem dX5_drawn_30 : decode cX5_drawn 30 = .ok (.aload_n 0, 1) := by decide +kernel
theorem dX5_drawn_31 : decode cX5_drawn 31 = .ok (.iload_n 1, 1) := by decide +kernel
theorem dX5_drawn_32 : decode cX5_drawn 32 = .ok (.putfield 111, 3) := by decide +kernel
theorem dX5_drawn_35 : decode cX5_drawn 35 = .ok (.iload_n 2, 1) := by decide +kernel
theorem dX5_drawn_36 : decode cX5_drawn 36 = .ok (.ireturn, 1) := by decide +kernel
set_option maxRecDepth 20000 in
theorem ggX5_price_X5_in : GoodIn wsX5_price wsX5_in := goodIn_r _ [7] (by decide +kernel) (by decide +kernel)
set_option maxRecDepth 20000 in
theorem gX5_price_X5_in : GoodIn wsX5_price (va_wsS RX5 56 yX5_in wsX5_in) := goodIn_app (goodIn_of _ (by decide +kernel)) ggX5_price_X5_in
theorem dX5_price_0 : decode cX5_price 0 = .ok (.iload_n 1, 1) := by decide +kernel
theorem dX5_price_1 : decode cX5_price 1 = .ok (.i2l, 1) := by decide +kernel
theorem dX5_price_2 : decode cX5_price 2 = .ok (.lconst 1, 1) := by decide +kernel
theorem dX5_price_3 : decode cX5_price 3 = .ok (.ldc2_w 137, 3) := by decide +kernel
theorem dX5_price_6 : decode cX5_price 6 = .ok (.invokestatic 56, 3) := by decide +kernel
theorem dX5_price_9 : decode cX5_price 9 = .ok (.ifCond .ne 6, 3) := by decide +kernel
theorem dX5_price_12 : decode cX5_price 12 = .ok (.bipush (-2), 2) := by decide +kernel
theorem dX5_price_14 : decode cX5_price 14 = .ok (.ireturn, 1) := by decide +kernel
theorem dX5_price_15 : decode cX5_price 15 = .ok (.aload_n 0, 1) := by decide +kernel
theorem dX5_price_16 : decode cX5_price 16 = .ok (.getfield 53, 3) := by decide +kernel
theorem dX5_price_19 : decode cX5_price 19 = .ok (.ifCond .ne 6, 3) := by decide +kernel
theorem dX5_price_22 : decode cX5_price 22 = .ok (.bipush (-3), 2) := by decide +kernel
theorem dX5_price_24 : decode cX5_price 24 = .ok (.ireturn, 1) := by decide +kernel
theorem dX5_price_25 : decode cX5_price 25 = .ok (.aload_n 0, 1) := by decide +kernel
theorem dX5_price_26 : decode cX5_price 26 = .ok (.getfield 114, 3) := by decide +kernel
theorem dX5_price_29 : decode cX5_price 29 = .ok (.istore_n 2, 1) := by decide +kernel
theorem dX5_price_30 : decode cX5_price 30 = .ok (.aload_n 0, 1) := by decide +kernel
theorem dX5_price_31 : decode cX5_price 31 = .ok (.iload_n 1, 1) := by decide +kernel
theorem dX5_price_32 : decode cX5_price 32 = .ok (.putfield 114, 3) := by decide +kernel
theorem dX5_price_35 : decode cX5_price 35 = .ok (.iload_n 2, 1) := by decide +kernel
theorem dX5_price_36 : decode cX5_price 36 = .ok (.ireturn, 1) := by decide +kernel
set_option maxRecDepth 20000 in
theorem ggX5_wish_X5_noCitizen : GoodIn wsX5_wish wsX5_noCitizen := goodIn_r _ [6, 7, 8, 9, 5, 10, 14, 15, 16, 17, 18, 19, 20, 21, 22, 23, 24, 25, 26, 27, 28, 29, 30, 31, 32, 33, 34, 35, 36, 37] (by decide +kernel) (by decide +kernel)
set_option maxRecDepth 20000 in
theorem gX5_wish_X5_noCitizen : GoodIn wsX5_wish (wsV RX5 129 RX5 yX5_noCitizen wsX5_noCitizen) := goodIn_app (goodIn_of _ (by decide +kernel)) ggX5_wish_X5_noCitizen
set_option maxRecDepth 20000 in
theorem ggX5_wish_X5_isIn : GoodIn wsX5_wish wsX5_isIn := goodIn_r _ [13] (by decide +kernel) (by decide +kernel)
set_option maxRecDepth 20000 in
theorem gX5_wish_X5_isIn : GoodIn wsX5_wish (va_wsS RX5 123 yX5_isIn wsX5_isIn) := goodIn_app (goodIn_of _ (by decide +kernel)) ggX5_wish_X5_isIn
theorem dX5_wish_0 : decode cX5_wish 0 = .ok (.aload_n 0, 1) := by decide +kernel
theorem dX5_wish_1 : decode cX5_wish 1 = .ok (.iload_n 1, 1) := by decide +kernel
theorem dX5_wish_2 : decode cX5_wish 2 = .ok (.invokevirtual 129, 3) := by decide +kernel
theorem dX5_wish_5 : decode cX5_wish 5 = .ok (.ifCond .eq 5, 3) := by decide +kernel
theorem dX5_wish_8 : decode cX5_wish 8 = .ok (.iconst (-1), 1) := by decide +kernel
theorem dX5_wish_9 : decode cX5_wish 9 = .ok (.ireturn, 1) := by decide +kernel
theorem dX5_wish_10 : decode cX5_wish 10 = .ok (.aload_n 0, 1) := by decide +kernel
theorem dX5_wish_11 : decode cX5_wish 11 = .ok (.getfield 117, 3) := by decide +kernel
theorem dX5_wish_14 : decode cX5_wish 14 = .ok (.iload_n 1, 1) := by decide +kernel
theorem dX5_wish_15 : decode cX5_wish 15 = .ok (.invokestatic 123, 3) := by decide +kernel
theorem dX5_wish_18 : decode cX5_wish 18 = .ok (.istore_n 3, 1) := by decide +kernel
theorem dX5_wish_19 : decode cX5_wish 19 = .ok (.aload_n 0, 1) := by decide +kernel
theorem dX5_wish_20 : decode cX5_wish 20 = .ok (.iload_n 2, 1) := by decide +kernel
theorem dX5_wish_21 : decode cX5_wish 21 = .ok (.ifCond .eq 14, 3) := by decide +kernel
theorem dX5_wish_24 : decode cX5_wish 24 = .ok (.aload_n 0, 1) := by decide +kernel
theorem dX5_wish_25 : decode cX5_wish 25 = .ok (.getfield 117, 3) := by decide +kernel
theorem dX5_wish_28 : decode cX5_wish 28 = .ok (.iconst 1, 1) := by decide +kernel
theorem dX5_wish_29 : decode cX5_wish 29 = .ok (.iload_n 1, 1) := by decide +kernel
theorem dX5_wish_30 : decode cX5_wish 30 = .ok (.ishl, 1) := by decide +kernel
theorem dX5_wish_31 : decode cX5_wish 31 = .ok (.ior, 1) := by decide +kernel
theorem dX5_wish_32 : decode cX5_wish 32 = .ok (.goto 13, 3) := by decide +kernel
theorem dX5_wish_35 : decode cX5_wish 35 = .ok (.aload_n 0, 1) := by decide +kernel
theorem dX5_wish_36 : decode cX5_wish 36 = .ok (.getfield 117, 3) := by decide +kernel
theorem dX5_wish_39 : decode cX5_wish 39 = .ok (.iconst 1, 1) := by decide +kernel
theorem dX5_wish_40 : decode cX5_wish 40 = .ok (.iload_n 1, 1) := by decide +kernel
theorem dX5_wish_41 : decode cX5_wish 41 = .ok (.ishl, 1) := by decide +kernel
theorem dX5_wish_42 : decode cX5_wish 42 = .ok (.iconst (-1), 1) := by decide +kernel
theorem dX5_wish_43 : decode cX5_wish 43 = .ok (.ixor, 1) := by decide +kernel
theorem dX5_wish_44 : decode cX5_wish 44 = .ok (.iand, 1) := by decide +kernel
theorem dX5_wish_45 : decode cX5_wish 45 = .ok (.putfield 117, 3) := by decide +kernel
theorem dX5_wish_48 : decode cX5_wish 48 = .ok (.iload_n 3, 1) := by decide +kernel
theorem dX5_wish_49 : decode cX5_wish 49 = .ok (.iload_n 2, 1) := by decide +kernel
theorem dX5_wish_50 : decode cX5_wish 50 = .ok (.if_icmp .ne 7, 3) := by decide +kernel
theorem dX5_wish_53 : decode cX5_wish 53 = .ok (.iconst 0, 1) := by decide +kernel
theorem dX5_wish_54 : decode cX5_wish 54 = .ok (.goto 4, 3) := by decide +kernel
theorem dX5_wish_57 : decode cX5_wish 57 = .ok (.iconst 1, 1) := by decide +kernel
theorem dX5_wish_58 : decode cX5_wish 58 = .ok (.ireturn, 1) := by decide +kernel
set_option maxRecDepth 20000 in
theorem ggX5_ownerOf_X5_slipsOf : GoodIn wsX5_ownerOf wsX5_slipsOf := goodIn_r _ [5, 6, 7, 8, 9, 10, 11, 12, 13, 14, 15, 16, 17, 18, 19, 20, 21, 22, 23, 24, 25, 26, 27, 28, 29, 30, 31] (by decide +kernel) (by decide +kernel)
set_option maxRecDepth 20000 in
theorem gX5_ownerOf_X5_slipsOf : GoodIn wsX5_ownerOf (wsV RX5 126 RX5 yX5_slipsOf wsX5_slipsOf) := goodIn_app (goodIn_of _ (by decide +kernel)) ggX5_ownerOf_X5_slipsOf
theorem dX5_ownerOf_0 : decode cX5_ownerOf 0 = .ok (.iconst 0, 1) := by decide +kernel
theorem dX5_ownerOf_1 : decode cX5_ownerOf 1 = .ok (.istore_n 2, 1) := by decide +kernel
theorem dX5_ownerOf_2 : decode cX5_ownerOf 2 = .ok (.iload_n 1, 1) := by decide +kernel
theorem dX5_ownerOf_3 : decode cX5_ownerOf 3 = .ok (.istore_n 3, 1) := by decide +kernel
theorem dX5_ownerOf_4 : decode cX5_ownerOf 4 = .ok (.iload_n 3, 1) := by decide +kernel
theorem dX5_ownerOf_5 : decode cX5_ownerOf 5 = .ok (.aload_n 0, 1) := by decide +kernel
theorem dX5_ownerOf_6 : decode cX5_ownerOf 6 = .ok (.iload_n 2, 1) := by decide +kernel
theorem dX5_ownerOf_7 : decode cX5_ownerOf 7 = .ok (.invokevirtual 126, 3) := by decide +kernel
theorem dX5_ownerOf_10 : decode cX5_ownerOf 10 = .ok (.if_icmp .lt 17, 3) := by decide +kernel
theorem dX5_ownerOf_13 : decode cX5_ownerOf 13 = .ok (.iload_n 3, 1) := by decide +kernel
theorem dX5_ownerOf_14 : decode cX5_ownerOf 14 = .ok (.aload_n 0, 1) := by decide +kernel
theorem dX5_ownerOf_15 : decode cX5_ownerOf 15 = .ok (.iload_n 2, 1) := by decide +kernel
theorem dX5_ownerOf_16 : decode cX5_ownerOf 16 = .ok (.invokevirtual 126, 3) := by decide +kernel
theorem dX5_ownerOf_19 : decode cX5_ownerOf 19 = .ok (.isub, 1) := by decide +kernel
theorem dX5_ownerOf_20 : decode cX5_ownerOf 20 = .ok (.istore_n 3, 1) := by decide +kernel
theorem dX5_ownerOf_21 : decode cX5_ownerOf 21 = .ok (.iinc 2 1, 3) := by decide +kernel
theorem dX5_ownerOf_24 : decode cX5_ownerOf 24 = .ok (.goto (-20), 3) := by decide +kernel
theorem dX5_ownerOf_27 : decode cX5_ownerOf 27 = .ok (.iload_n 2, 1) := by decide +kernel
theorem dX5_ownerOf_28 : decode cX5_ownerOf 28 = .ok (.ireturn, 1) := by decide +kernel
set_option maxRecDepth 20000 in
theorem ggX5_doesPass_X5_bits : GoodIn wsX5_doesPass wsX5_bits := goodIn_r _ [5] (by decide +kernel) (by decide +kernel)
set_option maxRecDepth 20000 in
theorem gX5_doesPass_X5_bits : GoodIn wsX5_doesPass (va_wsS RX5 139 yX5_bits wsX5_bits) := goodIn_app (goodIn_of _ (by decide +kernel)) ggX5_doesPass_X5_bits
theorem dX5_doesPass_0 : decode cX5_doesPass 0 = .ok (.iload_n 1, 1) := by decide +kernel
theorem dX5_doesPass_1 : decode cX5_doesPass 1 = .ok (.aload_n 0, 1) := by decide +kernel
theorem dX5_doesPass_2 : decode cX5_doesPass 2 = .ok (.getfield 117, 3) := by decide +kernel
theorem dX5_doesPass_5 : decode cX5_doesPass 5 = .ok (.iand, 1) := by decide +kernel
theorem dX5_doesPass_6 : decode cX5_doesPass 6 = .ok (.invokestatic 139, 3) := by decide +kernel
theorem dX5_doesPass_9 : decode cX5_doesPass 9 = .ok (.iload_n 1, 1) := by decide +kernel
theorem dX5_doesPass_10 : decode cX5_doesPass 10 = .ok (.aload_n 0, 1) := by decide +kernel
theorem dX5_doesPass_11 : decode cX5_doesPass 11 = .ok (.getfield 117, 3) := by decide +kernel
theorem dX5_doesPass_14 : decode cX5_doesPass 14 = .ok (.iconst (-1), 1) := by decide +kernel
theorem dX5_doesPass_15 : decode cX5_doesPass 15 = .ok (.ixor, 1) := by decide +kernel
theorem dX5_doesPass_16 : decode cX5_doesPass 16 = .ok (.iand, 1) := by decide +kernel
theorem dX5_doesPass_17 : decode cX5_doesPass 17 = .ok (.invokestatic 139, 3) := by decide +kernel
theorem dX5_doesPass_20 : decode cX5_doesPass 20 = .ok (.if_icmp .le 7, 3) := by decide +kernel
theorem dX5_doesPass_23 : decode cX5_doesPass 23 = .ok (.iconst 1, 1) := by decide +kernel
theorem dX5_doesPass_24 : decode cX5_doesPass 24 = .ok (.goto 4, 3) := by decide +kernel
theorem dX5_doesPass_27 : decode cX5_doesPass 27 = .ok (.iconst 0, 1) := by decide +kernel
theorem dX5_doesPass_28 : decode cX5_doesPass 28 = .ok (.ireturn, 1) := by decide +kernel
set_option maxRecDepth 20000 in
theorem ggX5_freeBy_X5_everybody : GoodIn wsX5_freeBy wsX5_everybody := goodIn_r _ [7, 8, 29, 30, 31, 32, 33, 34, 35, 36, 37, 38, 39, 40, 41, 42, 43, 44, 45, 46, 47, 48, 49, 50, 51, 52] (by decide +kernel) (by decide +kernel)
set_option maxRecDepth 20000 in
theorem gX5_freeBy_X5_everybody : GoodIn wsX5_freeBy (wsV RX5 145 RX5 yX5_everybody wsX5_everybody) := goodIn_app (goodIn_of _ (by decide +kernel)) ggX5_freeBy_X5_everybody
set_option maxRecDepth 20000 in
theorem ggX5_freeBy_X5_slipsOfAll : GoodIn wsX5_freeBy wsX5_slipsOfAll := goodIn_r _ [12, 8, 13, 14, 6, 15, 16, 17, 18, 19, 20, 21, 29, 30, 31, 32, 33, 34, 35, 36, 37, 38, 39, 40, 41, 42, 43, 44, 45, 46, 47, 48, 49, 50, 51, 52] (by decide +kernel) (by decide +kernel)
set_option maxRecDepth 20000 in
theorem gX5_freeBy_X5_slipsOfAll : GoodIn wsX5_freeBy (wsV RX5 132 RX5 yX5_slipsOfAll wsX5_slipsOfAll) := goodIn_app (goodIn_of _ (by decide +kernel)) ggX5_freeBy_X5_slipsOfAll
set_option maxRecDepth 20000 in
theorem ggX5_freeBy_X5_in : GoodIn wsX5_freeBy wsX5_in := goodIn_r _ [24] (by decide +kernel) (by decide +kernel)
set_option maxRecDepth 20000 in
theorem gX5_freeBy_X5_in : GoodIn wsX5_freeBy (va_wsS RX5 56 yX5_in wsX5_in) := goodIn_app (goodIn_of _ (by decide +kernel)) ggX5_freeBy_X5_in
set_option maxRecDepth 20000 in
theorem ggX5_freeBy_X5_ownerOf : GoodIn wsX5_freeBy wsX5_ownerOf := goodIn_r _ [28, 16, 17, 18, 6, 19, 20, 21, 29, 30, 31, 32, 33, 34, 35, 36, 37, 38, 39, 40, 41, 42, 43, 44, 45, 46, 47, 48, 49, 50, 51, 52] (by decide +kernel) (by decide +kernel)
set_option maxRecDepth 20000 in
theorem gX5_freeBy_X5_ownerOf : GoodIn wsX5_freeBy (wsV RX5 149 RX5 yX5_ownerOf wsX5_ownerOf) := goodIn_app (goodIn_of _ (by decide +kernel)) ggX5_freeBy_X5_ownerOf
theorem dX5_freeBy_0 : decode cX5_freeBy 0 = .ok (.iconst 0, 1) := by decide +kernel
theorem dX5_freeBy_1 : decode cX5_freeBy 1 = .ok (.istore_n 3, 1) := by decide +kernel
theorem dX5_freeBy_2 : decode cX5_freeBy 2 = .ok (.aload_n 0, 1) := by decide +kernel
theorem dX5_freeBy_3 : decode cX5_freeBy 3 = .ok (.bipush (-9), 2) := by decide +kernel
theorem dX5_freeBy_5 : decode cX5_freeBy 5 = .ok (.putfield 142, 3) := by decide +kernel
theorem dX5_freeBy_8 : decode cX5_freeBy 8 = .ok (.iconst 0, 1) := by decide +kernel
theorem dX5_freeBy_9 : decode cX5_freeBy 9 = .ok (.istore 4, 2) := by decide +kernel
theorem dX5_freeBy_11 : decode cX5_freeBy 11 = .ok (.iload 4, 2) := by decide +kernel
theorem dX5_freeBy_13 : decode cX5_freeBy 13 = .ok (.iload_n 2, 1) := by decide +kernel
theorem dX5_freeBy_14 : decode cX5_freeBy 14 = .ok (.if_icmp .ge 133, 3) := by decide +kernel
theorem dX5_freeBy_17 : decode cX5_freeBy 17 = .ok (.aload_n 0, 1) := by decide +kernel
theorem dX5_freeBy_18 : decode cX5_freeBy 18 = .ok (.getfield 142, 3) := by decide +kernel
theorem dX5_freeBy_21 : decode cX5_freeBy 21 = .ok (.ifCond .ge 126, 3) := by decide +kernel
theorem dX5_freeBy_24 : decode cX5_freeBy 24 = .ok (.aload_n 0, 1) := by decide +kernel
theorem dX5_freeBy_25 : decode cX5_freeBy 25 = .ok (.getfield 37, 3) := by decide +kernel
theorem dX5_freeBy_28 : decode cX5_freeBy 28 = .ok (.iload_n 1, 1) := by decide +kernel
theorem dX5_freeBy_29 : decode cX5_freeBy 29 = .ok (.iload 4, 2) := by decide +kernel
theorem dX5_freeBy_31 : decode cX5_freeBy 31 = .ok (.iadd, 1) := by decide +kernel
theorem dX5_freeBy_32 : decode cX5_freeBy 32 = .ok (.iaload, 1) := by decide +kernel
theorem dX5_freeBy_33 : decode cX5_freeBy 33 = .ok (.istore 5, 2) := by decide +kernel
theorem dX5_freeBy_35 : decode cX5_freeBy 35 = .ok (.iload 5, 2) := by decide +kernel
theorem dX5_freeBy_37 : decode cX5_freeBy 37 = .ok (.i2l, 1) := by decide +kernel
theorem dX5_freeBy_38 : decode cX5_freeBy 38 = .ok (.lconst 0, 1) := by decide +kernel
theorem dX5_freeBy_39 : decode cX5_freeBy 39 = .ok (.aload_n 0, 1) := by decide +kernel
theorem dX5_freeBy_40 : decode cX5_freeBy 40 = .ok (.aload_n 0, 1) := by decide +kernel
theorem dX5_freeBy_41 : decode cX5_freeBy 41 = .ok (.invokevirtual 145, 3) := by decide +kernel
theorem dX5_freeBy_44 : decode cX5_freeBy 44 = .ok (.invokevirtual 132, 3) := by decide +kernel
theorem dX5_freeBy_47 : decode cX5_freeBy 47 = .ok (.i2l, 1) := by decide +kernel
theorem dX5_freeBy_48 : decode cX5_freeBy 48 = .ok (.lconst 1, 1) := by decide +kernel
theorem dX5_freeBy_49 : decode cX5_freeBy 49 = .ok (.lsub, 1) := by decide +kernel
theorem dX5_freeBy_50 : decode cX5_freeBy 50 = .ok (.invokestatic 56, 3) := by decide +kernel
theorem dX5_freeBy_53 : decode cX5_freeBy 53 = .ok (.ifCond .ne 7, 3) := by decide +kernel
theorem dX5_freeBy_56 : decode cX5_freeBy 56 = .ok (.iconst 1, 1) := by decide +kernel
theorem dX5_freeBy_57 : decode cX5_freeBy 57 = .ok (.goto 4, 3) := by decide +kernel
theorem dX5_freeBy_60 : decode cX5_freeBy 60 = .ok (.iconst 0, 1) := by decide +kernel
theorem dX5_freeBy_61 : decode cX5_freeBy 61 = .ok (.istore 6, 2) := by decide +kernel
theorem dX5_freeBy_63 : decode cX5_freeBy 63 = .ok (.iconst 0, 1) := by decide +kernel
theorem dX5_freeBy_64 : decode cX5_freeBy 64 = .ok (.istore 7, 2) := by decide +kernel
theorem dX5_freeBy_66 : decode cX5_freeBy 66 = .ok (.iload 7, 2) := by decide +kernel
theorem dX5_freeBy_68 : decode cX5_freeBy 68 = .ok (.iload 4, 2) := by decide +kernel
theorem dX5_freeBy_70 : decode cX5_freeBy 70 = .ok (.if_icmp .ge 35, 3) := by decide +kernel
theorem dX5_freeBy_73 : decode cX5_freeBy 73 = .ok (.iload 6, 2) := by decide +kernel
theorem dX5_freeBy_75 : decode cX5_freeBy 75 = .ok (.ifCond .ne 17, 3) := by decide +kernel
theorem dX5_freeBy_78 : decode cX5_freeBy 78 = .ok (.aload_n 0, 1) := by decide +kernel
theorem dX5_freeBy_79 : decode cX5_freeBy 79 = .ok (.getfield 37, 3) := by decide +kernel
theorem dX5_freeBy_82 : decode cX5_freeBy 82 = .ok (.iload_n 1, 1) := by decide +kernel
theorem dX5_freeBy_83 : decode cX5_freeBy 83 = .ok (.iload 7, 2) := by decide +kernel
theorem dX5_freeBy_85 : decode cX5_freeBy 85 = .ok (.iadd, 1) := by decide +kernel
theorem dX5_freeBy_86 : decode cX5_freeBy 86 = .ok (.iaload, 1) := by decide +kernel
theorem dX5_freeBy_87 : decode cX5_freeBy 87 = .ok (.iload 5, 2) := by decide +kernel
theorem dX5_freeBy_89 : decode cX5_freeBy 89 = .ok (.if_icmp .ne 7, 3) := by decide +kernel
theorem dX5_freeBy_92 : decode cX5_freeBy 92 = .ok (.iconst 1, 1) := by decide +kernel
theorem dX5_freeBy_93 : decode cX5_freeBy 93 = .ok (.goto 4, 3) := by decide +kernel
theorem dX5_freeBy_96 : decode cX5_freeBy 96 = .ok (.iconst 0, 1) := by decide +kernel
theorem dX5_freeBy_97 : decode cX5_freeBy 97 = .ok (.istore 6, 2) := by decide +kernel
theorem dX5_freeBy_99 : decode cX5_freeBy 99 = .ok (.iinc 7 1, 3) := by decide +kernel
theorem dX5_freeBy_102 : decode cX5_freeBy 102 = .ok (.goto (-36), 3) := by decide +kernel
theorem dX5_freeBy_105 : decode cX5_freeBy 105 = .ok (.aload_n 0, 1) := by decide +kernel
theorem dX5_freeBy_106 : decode cX5_freeBy 106 = .ok (.iload 6, 2) := by decide +kernel
theorem dX5_freeBy_108 : decode cX5_freeBy 108 = .ok (.ifCond .eq 8, 3) := by decide +kernel
theorem dX5_freeBy_111 : decode cX5_freeBy 111 = .ok (.iload 4, 2) := by decide +kernel
theorem dX5_freeBy_113 : decode cX5_freeBy 113 = .ok (.goto 5, 3) := by decide +kernel
theorem dX5_freeBy_116 : decode cX5_freeBy 116 = .ok (.bipush (-9), 2) := by decide +kernel
theorem dX5_freeBy_118 : decode cX5_freeBy 118 = .ok (.putfield 142, 3) := by decide +kernel
theorem dX5_freeBy_121 : decode cX5_freeBy 121 = .ok (.iload_n 3, 1) := by decide +kernel
theorem dX5_freeBy_122 : decode cX5_freeBy 122 = .ok (.iload 6, 2) := by decide +kernel
theorem dX5_freeBy_124 : decode cX5_freeBy 124 = .ok (.ifCond .eq 7, 3) := by decide +kernel
theorem dX5_freeBy_127 : decode cX5_freeBy 127 = .ok (.iconst 0, 1) := by decide +kernel
theorem dX5_freeBy_128 : decode cX5_freeBy 128 = .ok (.goto 11, 3) := by decide +kernel
theorem dX5_freeBy_131 : decode cX5_freeBy 131 = .ok (.iconst 1, 1) := by decide +kernel
theorem dX5_freeBy_132 : decode cX5_freeBy 132 = .ok (.aload_n 0, 1) := by decide +kernel
theorem dX5_freeBy_133 : decode cX5_freeBy 133 = .ok (.iload 5, 2) := by decide +kernel
theorem dX5_freeBy_135 : decode cX5_freeBy 135 = .ok (.invokevirtual 149, 3) := by decide +kernel
theorem dX5_freeBy_138 : decode cX5_freeBy 138 = .ok (.ishl, 1) := by decide +kernel
theorem dX5_freeBy_139 : decode cX5_freeBy 139 = .ok (.ior, 1) := by decide +kernel
theorem dX5_freeBy_140 : decode cX5_freeBy 140 = .ok (.istore_n 3, 1) := by decide +kernel
theorem dX5_freeBy_141 : decode cX5_freeBy 141 = .ok (.iinc 4 1, 3) := by decide +kernel
theorem dX5_freeBy_144 : decode cX5_freeBy 144 = .ok (.goto (-133), 3) := by decide +kernel
theorem dX5_freeBy_147 : decode cX5_freeBy 147 = .ok (.iload_n 3, 1) := by decide +kernel
theorem dX5_freeBy_148 : decode cX5_freeBy 148 = .ok (.ireturn, 1) := by decide +kernel
set_option maxRecDepth 20000 in
theorem ggX5_draw_X5_noSheet : GoodIn wsX5_draw wsX5_noSheet := goodIn_r _ [8, 9, 10, 11, 7, 12] (by decide +kernel) (by decide +kernel)
set_option maxRecDepth 20000 in
theorem gX5_draw_X5_noSheet : GoodIn wsX5_draw (va_wsS RX5 95 yX5_noSheet wsX5_noSheet) := goodIn_app (goodIn_of _ (by decide +kernel)) ggX5_draw_X5_noSheet
set_option maxRecDepth 20000 in
theorem ggX5_draw_X5_refused : GoodIn wsX5_draw wsX5_refused := goodIn_r _ [16, 17, 65, 66, 67, 68, 69, 70, 71, 72, 73, 74, 75, 76, 77, 78, 79, 80, 81, 82, 83, 84, 85, 86, 87, 88] (by decide +kernel) (by decide +kernel)
set_option maxRecDepth 20000 in
theorem gX5_draw_X5_refused : GoodIn wsX5_draw (wsV RX5 99 RX5 yX5_refused wsX5_refused) := goodIn_app (goodIn_of _ (by decide +kernel)) ggX5_draw_X5_refused
set_option maxRecDepth 20000 in
theorem ggX5_draw_X5_in : GoodIn wsX5_draw wsX5_in := goodIn_r _ [12] (by decide +kernel) (by decide +kernel)
set_option maxRecDepth 20000 in
theorem gX5_draw_X5_in : GoodIn wsX5_draw (va_wsS RX5 56 yX5_in wsX5_in) := goodIn_app (goodIn_of _ (by decide +kernel)) ggX5_draw_X5_in
set_option maxRecDepth 20000 in
theorem ggX5_draw_X5_cellsBarred : GoodIn wsX5_draw wsX5_cellsBarred := goodIn_r _ [21, 22, 23, 24, 25, 26, 7, 27, 17, 28, 29, 30, 65, 66, 67, 68, 69, 70, 71, 72, 73, 74, 75, 76, 77, 78, 79, 80, 81, 82, 83, 84, 85, 86, 87, 88] (by decide +kernel) (by decide +kernel)
set_option maxRecDepth 20000 in
theorem gX5_draw_X5_cellsBarred : GoodIn wsX5_draw (wsV RX5 104 RX5 yX5_cellsBarred wsX5_cellsBarred) := goodIn_app (goodIn_of _ (by decide +kernel)) ggX5_draw_X5_cellsBarred
set_option maxRecDepth 20000 in
theorem ggX5_draw_X5_everybody : GoodIn wsX5_draw wsX5_everybody := goodIn_r _ [34, 3, 65, 66, 67, 68, 69, 70, 71, 72, 73, 74, 75, 76, 77, 78, 79, 80, 81, 82, 83, 84, 85, 86, 87, 88] (by decide +kernel) (by decide +kernel)
set_option maxRecDepth 20000 in
theorem gX5_draw_X5_everybody : GoodIn wsX5_draw (wsV RX5 145 RX5 yX5_everybody wsX5_everybody) := goodIn_app (goodIn_of _ (by decide +kernel)) ggX5_draw_X5_everybody
set_option maxRecDepth 20000 in
theorem ggX5_draw_X5_freeBy : GoodIn wsX5_draw wsX5_freeBy := goodIn_r _ [38, 4, 39, 31, 32, 33, 7, 34, 3, 40, 41, 42, 43, 44, 45, 46, 47, 48, 49, 50, 51, 52, 10, 11, 12, 53, 54, 55, 56, 65, 66, 67, 68, 69, 70, 71, 72, 73, 74, 75, 76, 77, 78, 79, 80, 81, 82, 83, 84, 85, 86, 87, 88] (by decide +kernel) (by decide +kernel)
set_option maxRecDepth 20000 in
theorem gX5_draw_X5_freeBy : GoodIn wsX5_draw (wsV RX5 154 RX5 yX5_freeBy wsX5_freeBy) := goodIn_app (goodIn_of _ (by decide +kernel)) ggX5_draw_X5_freeBy
set_option maxRecDepth 20000 in
theorem ggX5_draw_X5_doesPass : GoodIn wsX5_draw wsX5_doesPass := goodIn_r _ [60, 61, 62, 63, 7, 64, 65, 66, 67, 68, 69, 70, 71, 72, 73, 74, 75, 76, 77, 78, 79, 80, 81, 82, 83, 84, 85, 86, 87, 88] (by decide +kernel) (by decide +kernel)
set_option maxRecDepth 20000 in
theorem gX5_draw_X5_doesPass : GoodIn wsX5_draw (wsV RX5 157 RX5 yX5_doesPass wsX5_doesPass) := goodIn_app (goodIn_of _ (by decide +kernel)) ggX5_draw_X5_doesPass
theorem dX5_draw_0 : decode cX5_draw 0 = .ok (.iload_n 1, 1) := by decide +kernel
theorem dX5_draw_1 : decode cX5_draw 1 = .ok (.invokestatic 95, 3) := by decide +kernel
theorem dX5_draw_4 : decode cX5_draw 4 = .ok (.ifCond .eq 9, 3) := by decide +kernel
theorem dX5_draw_7 : decode cX5_draw 7 = .ok (.aload_n 0, 1) := by decide +kernel
theorem dX5_draw_8 : decode cX5_draw 8 = .ok (.iconst (-1), 1) := by decide +kernel
theorem dX5_draw_9 : decode cX5_draw 9 = .ok (.invokevirtual 99, 3) := by decide +kernel
theorem dX5_draw_12 : decode cX5_draw 12 = .ok (.ireturn, 1) := by decide +kernel
theorem dX5_draw_13 : decode cX5_draw 13 = .ok (.iload_n 2, 1) := by decide +kernel
theorem dX5_draw_14 : decode cX5_draw 14 = .ok (.i2l, 1) := by decide +kernel
theorem dX5_draw_15 : decode cX5_draw 15 = .ok (.lconst 0, 1) := by decide +kernel
theorem dX5_draw_16 : decode cX5_draw 16 = .ok (.ldc2_w 102, 3) := by decide +kernel
theorem dX5_draw_19 : decode cX5_draw 19 = .ok (.invokestatic 56, 3) := by decide +kernel
theorem dX5_draw_22 : decode cX5_draw 22 = .ok (.ifCond .eq 29, 3) := by decide +kernel
theorem dX5_draw_25 : decode cX5_draw 25 = .ok (.iload 4, 2) := by decide +kernel
theorem dX5_draw_27 : decode cX5_draw 27 = .ok (.i2l, 1) := by decide +kernel
theorem dX5_draw_28 : decode cX5_draw 28 = .ok (.lconst 0, 1) := by decide +kernel
theorem dX5_draw_29 : decode cX5_draw 29 = .ok (.ldc2_w 152, 3) := by decide +kernel
theorem dX5_draw_32 : decode cX5_draw 32 = .ok (.invokestatic 56, 3) := by decide +kernel
theorem dX5_draw_35 : decode cX5_draw 35 = .ok (.ifCond .eq 16, 3) := by decide +kernel
theorem dX5_draw_38 : decode cX5_draw 38 = .ok (.iload 5, 2) := by decide +kernel
theorem dX5_draw_40 : decode cX5_draw 40 = .ok (.i2l, 1) := by decide +kernel
theorem dX5_draw_41 : decode cX5_draw 41 = .ok (.lconst 0, 1) := by decide +kernel
theorem dX5_draw_42 : decode cX5_draw 42 = .ok (.ldc2_w 102, 3) := by decide +kernel
theorem dX5_draw_45 : decode cX5_draw 45 = .ok (.invokestatic 56, 3) := by decide +kernel
theorem dX5_draw_48 : decode cX5_draw 48 = .ok (.ifCond .ne 10, 3) := by decide +kernel
theorem dX5_draw_51 : decode cX5_draw 51 = .ok (.aload_n 0, 1) := by decide +kernel
theorem dX5_draw_52 : decode cX5_draw 52 = .ok (.bipush (-2), 2) := by decide +kernel
theorem dX5_draw_54 : decode cX5_draw 54 = .ok (.invokevirtual 99, 3) := by decide +kernel
theorem dX5_draw_57 : decode cX5_draw 57 = .ok (.ireturn, 1) := by decide +kernel
theorem dX5_draw_58 : decode cX5_draw 58 = .ok (.aload_n 0, 1) := by decide +kernel
theorem dX5_draw_59 : decode cX5_draw 59 = .ok (.getfield 53, 3) := by decide +kernel
theorem dX5_draw_62 : decode cX5_draw 62 = .ok (.ifCond .ne 10, 3) := by decide +kernel
theorem dX5_draw_65 : decode cX5_draw 65 = .ok (.aload_n 0, 1) := by decide +kernel
theorem dX5_draw_66 : decode cX5_draw 66 = .ok (.bipush (-3), 2) := by decide +kernel
theorem dX5_draw_68 : decode cX5_draw 68 = .ok (.invokevirtual 99, 3) := by decide +kernel
theorem dX5_draw_71 : decode cX5_draw 71 = .ok (.ireturn, 1) := by decide +kernel
theorem dX5_draw_72 : decode cX5_draw 72 = .ok (.aload_n 0, 1) := by decide +kernel
theorem dX5_draw_73 : decode cX5_draw 73 = .ok (.iload_n 1, 1) := by decide +kernel
theorem dX5_draw_74 : decode cX5_draw 74 = .ok (.iload_n 2, 1) := by decide +kernel
theorem dX5_draw_75 : decode cX5_draw 75 = .ok (.iload_n 3, 1) := by decide +kernel
theorem dX5_draw_76 : decode cX5_draw 76 = .ok (.iload 4, 2) := by decide +kernel
theorem dX5_draw_78 : decode cX5_draw 78 = .ok (.i2l, 1) := by decide +kernel
theorem dX5_draw_79 : decode cX5_draw 79 = .ok (.invokevirtual 104, 3) := by decide +kernel
theorem dX5_draw_82 : decode cX5_draw 82 = .ok (.istore 6, 2) := by decide +kernel
theorem dX5_draw_84 : decode cX5_draw 84 = .ok (.iload 6, 2) := by decide +kernel
theorem dX5_draw_86 : decode cX5_draw 86 = .ok (.ifCond .ge 6, 3) := by decide +kernel
theorem dX5_draw_89 : decode cX5_draw 89 = .ok (.iload 6, 2) := by decide +kernel
theorem dX5_draw_91 : decode cX5_draw 91 = .ok (.ireturn, 1) := by decide +kernel
theorem dX5_draw_92 : decode cX5_draw 92 = .ok (.aload_n 0, 1) := by decide +kernel
theorem dX5_draw_93 : decode cX5_draw 93 = .ok (.invokevirtual 145, 3) := by decide +kernel
theorem dX5_draw_96 : decode cX5_draw 96 = .ok (.aload_n 0, 1) := by decide +kernel
theorem dX5_draw_97 : decode cX5_draw 97 = .ok (.bipush 60, 2) := by decide +kernel
theorem dX5_draw_99 : decode cX5_draw 99 = .ok (.iload_n 1, 1) := by decide +kernel
theorem dX5_draw_100 : decode cX5_draw 100 = .ok (.imul, 1) := by decide +kernel
theorem dX5_draw_101 : decode cX5_draw 101 = .ok (.iload_n 3, 1) := by decide +kernel
theorem dX5_draw_102 : decode cX5_draw 102 = .ok (.iadd, 1) := by decide +kernel
theorem dX5_draw_103 : decode cX5_draw 103 = .ok (.iload 4, 2) := by decide +kernel
theorem dX5_draw_105 : decode cX5_draw 105 = .ok (.invokevirtual 154, 3) := by decide +kernel
theorem dX5_draw_108 : decode cX5_draw 108 = .ok (.iconst (-1), 1) := by decide +kernel
theorem dX5_draw_109 : decode cX5_draw 109 = .ok (.ixor, 1) := by decide +kernel
theorem dX5_draw_110 : decode cX5_draw 110 = .ok (.iand, 1) := by decide +kernel
theorem dX5_draw_111 : decode cX5_draw 111 = .ok (.istore 7, 2) := by decide +kernel
theorem dX5_draw_113 : decode cX5_draw 113 = .ok (.iload 5, 2) := by decide +kernel
theorem dX5_draw_115 : decode cX5_draw 115 = .ok (.iconst 1, 1) := by decide +kernel
theorem dX5_draw_116 : decode cX5_draw 116 = .ok (.if_icmp .ne 12, 3) := by decide +kernel
theorem dX5_draw_119 : decode cX5_draw 119 = .ok (.aload_n 0, 1) := by decide +kernel
theorem dX5_draw_120 : decode cX5_draw 120 = .ok (.aload_n 0, 1) := by decide +kernel
theorem dX5_draw_121 : decode cX5_draw 121 = .ok (.getfield 142, 3) := by decide +kernel
theorem dX5_draw_124 : decode cX5_draw 124 = .ok (.invokevirtual 99, 3) := by decide +kernel
theorem dX5_draw_127 : decode cX5_draw 127 = .ok (.ireturn, 1) := by decide +kernel
theorem dX5_draw_128 : decode cX5_draw 128 = .ok (.aload_n 0, 1) := by decide +kernel
theorem dX5_draw_129 : decode cX5_draw 129 = .ok (.getfield 142, 3) := by decide +kernel
theorem dX5_draw_132 : decode cX5_draw 132 = .ok (.ifCond .lt 15, 3) := by decide +kernel
theorem dX5_draw_135 : decode cX5_draw 135 = .ok (.aload_n 0, 1) := by decide +kernel
theorem dX5_draw_136 : decode cX5_draw 136 = .ok (.bipush (-100), 2) := by decide +kernel
theorem dX5_draw_138 : decode cX5_draw 138 = .ok (.aload_n 0, 1) := by decide +kernel
theorem dX5_draw_139 : decode cX5_draw 139 = .ok (.getfield 142, 3) := by decide +kernel
theorem dX5_draw_142 : decode cX5_draw 142 = .ok (.isub, 1) := by decide +kernel
theorem dX5_draw_143 : decode cX5_draw 143 = .ok (.invokevirtual 99, 3) := by decide +kernel
theorem dX5_draw_146 : decode cX5_draw 146 = .ok (.ireturn, 1) := by decide +kernel
theorem dX5_draw_147 : decode cX5_draw 147 = .ok (.aload_n 0, 1) := by decide +kernel
theorem dX5_draw_148 : decode cX5_draw 148 = .ok (.iload 5, 2) := by decide +kernel
theorem dX5_draw_150 : decode cX5_draw 150 = .ok (.ifCond .ne 8, 3) := by decide +kernel
theorem dX5_draw_153 : decode cX5_draw 153 = .ok (.iload 7, 2) := by decide +kernel
theorem dX5_draw_155 : decode cX5_draw 155 = .ok (.goto 17, 3) := by decide +kernel
theorem dX5_draw_158 : decode cX5_draw 158 = .ok (.aload_n 0, 1) := by decide +kernel
theorem dX5_draw_159 : decode cX5_draw 159 = .ok (.iload 7, 2) := by decide +kernel
theorem dX5_draw_161 : decode cX5_draw 161 = .ok (.invokevirtual 157, 3) := by decide +kernel
theorem dX5_draw_164 : decode cX5_draw 164 = .ok (.ifCond .eq 7, 3) := by decide +kernel
theorem dX5_draw_167 : decode cX5_draw 167 = .ok (.iconst 1, 1) := by decide +kernel
theorem dX5_draw_168 : decode cX5_draw 168 = .ok (.goto 4, 3) := by decide +kernel
theorem dX5_draw_171 : decode cX5_draw 171 = .ok (.iconst 0, 1) := by decide +kernel
theorem dX5_draw_172 : decode cX5_draw 172 = .ok (.invokevirtual 99, 3) := by decide +kernel
theorem dX5_draw_175 : decode cX5_draw 175 = .ok (.ireturn, 1) := by decide +kernel
set_option maxRecDepth 20000 in
theorem ggX5_allDraws_X5_everybody : GoodIn wsX5_allDraws wsX5_everybody := goodIn_r _ [5, 6, 28, 29, 30, 31, 32, 33, 34, 35, 36, 37, 38, 39, 40, 41, 42, 43, 44, 45, 46, 47, 48, 49, 50, 51] (by decide +kernel) (by decide +kernel)
set_option maxRecDepth 20000 in
theorem gX5_allDraws_X5_everybody : GoodIn wsX5_allDraws (wsV RX5 145 RX5 yX5_everybody wsX5_everybody) := goodIn_app (goodIn_of _ (by decide +kernel)) ggX5_allDraws_X5_everybody
set_option maxRecDepth 20000 in
theorem ggX5_allDraws_X5_slipsOfAll : GoodIn wsX5_allDraws wsX5_slipsOfAll := goodIn_r _ [10, 6, 11, 12, 4, 13, 14, 15, 16, 17, 18, 19, 28, 29, 30, 31, 32, 33, 34, 35, 36, 37, 38, 39, 40, 41, 42, 43, 44, 45, 46, 47, 48, 49, 50, 51] (by decide +kernel) (by decide +kernel)
set_option maxRecDepth 20000 in
theorem gX5_allDraws_X5_slipsOfAll : GoodIn wsX5_allDraws (wsV RX5 132 RX5 yX5_slipsOfAll wsX5_slipsOfAll) := goodIn_app (goodIn_of _ (by decide +kernel)) ggX5_allDraws_X5_slipsOfAll
set_option maxRecDepth 20000 in
theorem ggX5_allDraws_X5_drawnOf : GoodIn wsX5_allDraws wsX5_drawnOf := goodIn_r _ [23, 24, 28, 29, 30, 31, 32, 33, 34, 35, 36, 37, 38, 39, 40, 41, 42, 43, 44, 45, 46, 47, 48, 49, 50, 51] (by decide +kernel) (by decide +kernel)
set_option maxRecDepth 20000 in
theorem gX5_allDraws_X5_drawnOf : GoodIn wsX5_allDraws (wsV RX5 160 RX5 yX5_drawnOf wsX5_drawnOf) := goodIn_app (goodIn_of _ (by decide +kernel)) ggX5_allDraws_X5_drawnOf
set_option maxRecDepth 20000 in
theorem ggX5_allDraws_X5_waysOf : GoodIn wsX5_allDraws wsX5_waysOf := goodIn_r _ [27] (by decide +kernel) (by decide +kernel)
set_option maxRecDepth 20000 in
theorem gX5_allDraws_X5_waysOf : GoodIn wsX5_allDraws (va_wsS RX5 163 yX5_waysOf wsX5_waysOf) := goodIn_app (goodIn_of _ (by decide +kernel)) ggX5_allDraws_X5_waysOf
theorem dX5_allDraws_0 : decode cX5_allDraws 0 = .ok (.aload_n 0, 1) := by decide +kernel
theorem dX5_allDraws_1 : decode cX5_allDraws 1 = .ok (.aload_n 0, 1) := by decide +kernel
theorem dX5_allDraws_2 : decode cX5_allDraws 2 = .ok (.invokevirtual 145, 3) := by decide +kernel
theorem dX5_allDraws_5 : decode cX5_allDraws 5 = .ok (.invokevirtual 132, 3) := by decide +kernel
theorem dX5_allDraws_8 : decode cX5_allDraws 8 = .ok (.istore_n 1, 1) := by decide +kernel
theorem dX5_allDraws_9 : decode cX5_allDraws 9 = .ok (.iload_n 1, 1) := by decide +kernel
theorem dX5_allDraws_10 : decode cX5_allDraws 10 = .ok (.aload_n 0, 1) := by decide +kernel
theorem dX5_allDraws_11 : decode cX5_allDraws 11 = .ok (.iload_n 1, 1) := by decide +kernel
theorem dX5_allDraws_12 : decode cX5_allDraws 12 = .ok (.invokevirtual 160, 3) := by decide +kernel
theorem dX5_allDraws_15 : decode cX5_allDraws 15 = .ok (.invokestatic 163, 3) := by decide +kernel
theorem dX5_allDraws_18 : decode cX5_allDraws 18 = .ok (.lreturn, 1) := by decide +kernel
set_option maxRecDepth 20000 in
theorem ggX5_drawsOf_X5_everybody : GoodIn wsX5_drawsOf wsX5_everybody := goodIn_r _ [5, 6, 31, 32, 33, 34, 35, 36, 37, 38, 39, 40, 41, 42, 43, 44, 45, 46, 47, 48, 49, 50, 51, 52, 53, 54] (by decide +kernel) (by decide +kernel)
set_option maxRecDepth 20000 in
theorem gX5_drawsOf_X5_everybody : GoodIn wsX5_drawsOf (wsV RX5 145 RX5 yX5_everybody wsX5_everybody) := goodIn_app (goodIn_of _ (by decide +kernel)) ggX5_drawsOf_X5_everybody
set_option maxRecDepth 20000 in
theorem ggX5_drawsOf_X5_slipsOfAll : GoodIn wsX5_drawsOf wsX5_slipsOfAll := goodIn_r _ [10, 6, 11, 12, 4, 13, 14, 15, 16, 17, 18, 19, 31, 32, 33, 34, 35, 36, 37, 38, 39, 40, 41, 42, 43, 44, 45, 46, 47, 48, 49, 50, 51, 52, 53, 54] (by decide +kernel) (by decide +kernel)
set_option maxRecDepth 20000 in
theorem gX5_drawsOf_X5_slipsOfAll : GoodIn wsX5_drawsOf (wsV RX5 132 RX5 yX5_slipsOfAll wsX5_slipsOfAll) := goodIn_app (goodIn_of _ (by decide +kernel)) ggX5_drawsOf_X5_slipsOfAll
set_option maxRecDepth 20000 in
theorem ggX5_drawsOf_X5_drawnOf : GoodIn wsX5_drawsOf wsX5_drawnOf := goodIn_r _ [23, 24, 31, 32, 33, 34, 35, 36, 37, 38, 39, 40, 41, 42, 43, 44, 45, 46, 47, 48, 49, 50, 51, 52, 53, 54] (by decide +kernel) (by decide +kernel)
set_option maxRecDepth 20000 in
theorem gX5_drawsOf_X5_drawnOf : GoodIn wsX5_drawsOf (wsV RX5 160 RX5 yX5_drawnOf wsX5_drawnOf) := goodIn_app (goodIn_of _ (by decide +kernel)) ggX5_drawsOf_X5_drawnOf
set_option maxRecDepth 20000 in
theorem ggX5_drawsOf_X5_waysOf : GoodIn wsX5_drawsOf wsX5_waysOf := goodIn_r _ [27] (by decide +kernel) (by decide +kernel)
set_option maxRecDepth 20000 in
theorem gX5_drawsOf_X5_waysOf : GoodIn wsX5_drawsOf (va_wsS RX5 163 yX5_waysOf wsX5_waysOf) := goodIn_app (goodIn_of _ (by decide +kernel)) ggX5_drawsOf_X5_waysOf
set_option maxRecDepth 20000 in
theorem ggX5_drawsOf_X5_bits : GoodIn wsX5_drawsOf wsX5_bits := goodIn_r _ [30] (by decide +kernel) (by decide +kernel)
set_option maxRecDepth 20000 in
theorem gX5_drawsOf_X5_bits : GoodIn wsX5_drawsOf (va_wsS RX5 139 yX5_bits wsX5_bits) := goodIn_app (goodIn_of _ (by decide +kernel)) ggX5_drawsOf_X5_bits
theorem dX5_drawsOf_0 : decode cX5_drawsOf 0 = .ok (.aload_n 0, 1) := by decide +kernel
theorem dX5_drawsOf_1 : decode cX5_drawsOf 1 = .ok (.invokevirtual 145, 3) := by decide +kernel
theorem dX5_drawsOf_4 : decode cX5_drawsOf 4 = .ok (.iload_n 1, 1) := by decide +kernel
theorem dX5_drawsOf_5 : decode cX5_drawsOf 5 = .ok (.iconst (-1), 1) := by decide +kernel
theorem dX5_drawsOf_6 : decode cX5_drawsOf 6 = .ok (.ixor, 1) := by decide +kernel
theorem dX5_drawsOf_7 : decode cX5_drawsOf 7 = .ok (.iand, 1) := by decide +kernel
theorem dX5_drawsOf_8 : decode cX5_drawsOf 8 = .ok (.istore_n 2, 1) := by decide +kernel
theorem dX5_drawsOf_9 : decode cX5_drawsOf 9 = .ok (.aload_n 0, 1) := by decide +kernel
theorem dX5_drawsOf_10 : decode cX5_drawsOf 10 = .ok (.aload_n 0, 1) := by decide +kernel
theorem dX5_drawsOf_11 : decode cX5_drawsOf 11 = .ok (.aload_n 0, 1) := by decide +kernel
theorem dX5_drawsOf_12 : decode cX5_drawsOf 12 = .ok (.invokevirtual 145, 3) := by decide +kernel
theorem dX5_drawsOf_15 : decode cX5_drawsOf 15 = .ok (.invokevirtual 132, 3) := by decide +kernel
theorem dX5_drawsOf_18 : decode cX5_drawsOf 18 = .ok (.invokevirtual 160, 3) := by decide +kernel
theorem dX5_drawsOf_21 : decode cX5_drawsOf 21 = .ok (.istore_n 3, 1) := by decide +kernel
theorem dX5_drawsOf_22 : decode cX5_drawsOf 22 = .ok (.lconst 0, 1) := by decide +kernel
theorem dX5_drawsOf_23 : decode cX5_drawsOf 23 = .ok (.lstore 4, 2) := by decide +kernel
theorem dX5_drawsOf_25 : decode cX5_drawsOf 25 = .ok (.iconst 0, 1) := by decide +kernel
theorem dX5_drawsOf_26 : decode cX5_drawsOf 26 = .ok (.istore 6, 2) := by decide +kernel
theorem dX5_drawsOf_28 : decode cX5_drawsOf 28 = .ok (.iload 6, 2) := by decide +kernel
theorem dX5_drawsOf_30 : decode cX5_drawsOf 30 = .ok (.iload_n 2, 1) := by decide +kernel
theorem dX5_drawsOf_31 : decode cX5_drawsOf 31 = .ok (.if_icmp .gt 57, 3) := by decide +kernel
theorem dX5_drawsOf_34 : decode cX5_drawsOf 34 = .ok (.iload 6, 2) := by decide +kernel
theorem dX5_drawsOf_36 : decode cX5_drawsOf 36 = .ok (.iload_n 2, 1) := by decide +kernel
theorem dX5_drawsOf_37 : decode cX5_drawsOf 37 = .ok (.iconst (-1), 1) := by decide +kernel
theorem dX5_drawsOf_38 : decode cX5_drawsOf 38 = .ok (.ixor, 1) := by decide +kernel
theorem dX5_drawsOf_39 : decode cX5_drawsOf 39 = .ok (.iand, 1) := by decide +kernel
theorem dX5_drawsOf_40 : decode cX5_drawsOf 40 = .ok (.ifCond .ne 42, 3) := by decide +kernel
theorem dX5_drawsOf_43 : decode cX5_drawsOf 43 = .ok (.aload_n 0, 1) := by decide +kernel
theorem dX5_drawsOf_44 : decode cX5_drawsOf 44 = .ok (.iload 6, 2) := by decide +kernel
theorem dX5_drawsOf_46 : decode cX5_drawsOf 46 = .ok (.invokevirtual 132, 3) := by decide +kernel
theorem dX5_drawsOf_49 : decode cX5_drawsOf 49 = .ok (.iload_n 3, 1) := by decide +kernel
theorem dX5_drawsOf_50 : decode cX5_drawsOf 50 = .ok (.invokestatic 163, 3) := by decide +kernel
theorem dX5_drawsOf_53 : decode cX5_drawsOf 53 = .ok (.lstore 7, 2) := by decide +kernel
theorem dX5_drawsOf_55 : decode cX5_drawsOf 55 = .ok (.lload 4, 2) := by decide +kernel
theorem dX5_drawsOf_57 : decode cX5_drawsOf 57 = .ok (.iload_n 2, 1) := by decide +kernel
theorem dX5_drawsOf_58 : decode cX5_drawsOf 58 = .ok (.iload 6, 2) := by decide +kernel
theorem dX5_drawsOf_60 : decode cX5_drawsOf 60 = .ok (.iconst (-1), 1) := by decide +kernel
theorem dX5_drawsOf_61 : decode cX5_drawsOf 61 = .ok (.ixor, 1) := by decide +kernel
theorem dX5_drawsOf_62 : decode cX5_drawsOf 62 = .ok (.iand, 1) := by decide +kernel
theorem dX5_drawsOf_63 : decode cX5_drawsOf 63 = .ok (.invokestatic 139, 3) := by decide +kernel
theorem dX5_drawsOf_66 : decode cX5_drawsOf 66 = .ok (.iconst 2, 1) := by decide +kernel
theorem dX5_drawsOf_67 : decode cX5_drawsOf 67 = .ok (.irem, 1) := by decide +kernel
theorem dX5_drawsOf_68 : decode cX5_drawsOf 68 = .ok (.ifCond .ne 8, 3) := by decide +kernel
theorem dX5_drawsOf_71 : decode cX5_drawsOf 71 = .ok (.lload 7, 2) := by decide +kernel
theorem dX5_drawsOf_73 : decode cX5_drawsOf 73 = .ok (.goto 6, 3) := by decide +kernel
theorem dX5_drawsOf_76 : decode cX5_drawsOf 76 = .ok (.lload 7, 2) := by decide +kernel
theorem dX5_drawsOf_78 : decode cX5_drawsOf 78 = .ok (.lneg, 1) := by decide +kernel
theorem dX5_drawsOf_79 : decode cX5_drawsOf 79 = .ok (.ladd, 1) := by decide +kernel
theorem dX5_drawsOf_80 : decode cX5_drawsOf 80 = .ok (.lstore 4, 2) := by decide +kernel
theorem dX5_drawsOf_82 : decode cX5_drawsOf 82 = .ok (.iinc 6 1, 3) := by decide +kernel
theorem dX5_drawsOf_85 : decode cX5_drawsOf 85 = .ok (.goto (-57), 3) := by decide +kernel
theorem dX5_drawsOf_88 : decode cX5_drawsOf 88 = .ok (.lload 4, 2) := by decide +kernel
theorem dX5_drawsOf_90 : decode cX5_drawsOf 90 = .ok (.lreturn, 1) := by decide +kernel
set_option maxRecDepth 20000 in
theorem ggX5_drawsWithout_X5_everybody : GoodIn wsX5_drawsWithout wsX5_everybody := goodIn_r _ [5, 6, 28, 29, 30, 31, 32, 33, 34, 35, 36, 37, 38, 39, 40, 41, 42, 43, 44, 45, 46, 47, 48, 49, 50, 51] (by decide +kernel) (by decide +kernel)
set_option maxRecDepth 20000 in
theorem gX5_drawsWithout_X5_everybody : GoodIn wsX5_drawsWithout (wsV RX5 145 RX5 yX5_everybody wsX5_everybody) := goodIn_app (goodIn_of _ (by decide +kernel)) ggX5_drawsWithout_X5_everybody
set_option maxRecDepth 20000 in
theorem ggX5_drawsWithout_X5_slipsOfAll : GoodIn wsX5_drawsWithout wsX5_slipsOfAll := goodIn_r _ [10, 6, 11, 12, 4, 13, 14, 15, 16, 17, 18, 19, 28, 29, 30, 31, 32, 33, 34, 35, 36, 37, 38, 39, 40, 41, 42, 43, 44, 45, 46, 47, 48, 49, 50, 51] (by decide +kernel) (by decide +kernel)
set_option maxRecDepth 20000 in
theorem gX5_drawsWithout_X5_slipsOfAll : GoodIn wsX5_drawsWithout (wsV RX5 132 RX5 yX5_slipsOfAll wsX5_slipsOfAll) := goodIn_app (goodIn_of _ (by decide +kernel)) ggX5_drawsWithout_X5_slipsOfAll
set_option maxRecDepth 20000 in
theorem ggX5_drawsWithout_X5_slipsOf : GoodIn wsX5_drawsWithout wsX5_slipsOf := goodIn_r _ [17, 18, 19, 28, 29, 30, 31, 32, 33, 34, 35, 36, 37, 38, 39, 40, 41, 42, 43, 44, 45, 46, 47, 48, 49, 50, 51] (by decide +kernel) (by decide +kernel)
set_option maxRecDepth 20000 in
theorem gX5_drawsWithout_X5_slipsOf : GoodIn wsX5_drawsWithout (wsV RX5 126 RX5 yX5_slipsOf wsX5_slipsOf) := goodIn_app (goodIn_of _ (by decide +kernel)) ggX5_drawsWithout_X5_slipsOf
set_option maxRecDepth 20000 in
theorem ggX5_drawsWithout_X5_drawnOf : GoodIn wsX5_drawsWithout wsX5_drawnOf := goodIn_r _ [23, 24, 28, 29, 30, 31, 32, 33, 34, 35, 36, 37, 38, 39, 40, 41, 42, 43, 44, 45, 46, 47, 48, 49, 50, 51] (by decide +kernel) (by decide +kernel)
set_option maxRecDepth 20000 in
theorem gX5_drawsWithout_X5_drawnOf : GoodIn wsX5_drawsWithout (wsV RX5 160 RX5 yX5_drawnOf wsX5_drawnOf) := goodIn_app (goodIn_of _ (by decide +kernel)) ggX5_drawsWithout_X5_drawnOf
set_option maxRecDepth 20000 in
theorem ggX5_drawsWithout_X5_waysOf : GoodIn wsX5_drawsWithout wsX5_waysOf := goodIn_r _ [27] (by decide +kernel) (by decide +kernel)
set_option maxRecDepth 20000 in
theorem gX5_drawsWithout_X5_waysOf : GoodIn wsX5_drawsWithout (va_wsS RX5 163 yX5_waysOf wsX5_waysOf) := goodIn_app (goodIn_of _ (by decide +kernel)) ggX5_drawsWithout_X5_waysOf
theorem dX5_drawsWithout_0 : decode cX5_drawsWithout 0 = .ok (.aload_n 0, 1) := by decide +kernel
theorem dX5_drawsWithout_1 : decode cX5_drawsWithout 1 = .ok (.aload_n 0, 1) := by decide +kernel
theorem dX5_drawsWithout_2 : decode cX5_drawsWithout 2 = .ok (.invokevirtual 145, 3) := by decide +kernel
theorem dX5_drawsWithout_5 : decode cX5_drawsWithout 5 = .ok (.invokevirtual 132, 3) := by decide +kernel
theorem dX5_drawsWithout_8 : decode cX5_drawsWithout 8 = .ok (.istore_n 2, 1) := by decide +kernel
theorem dX5_drawsWithout_9 : decode cX5_drawsWithout 9 = .ok (.iload_n 2, 1) := by decide +kernel
theorem dX5_drawsWithout_10 : decode cX5_drawsWithout 10 = .ok (.aload_n 0, 1) := by decide +kernel
theorem dX5_drawsWithout_11 : decode cX5_drawsWithout 11 = .ok (.iload_n 1, 1) := by decide +kernel
theorem dX5_drawsWithout_12 : decode cX5_drawsWithout 12 = .ok (.invokevirtual 126, 3) := by decide +kernel
theorem dX5_drawsWithout_15 : decode cX5_drawsWithout 15 = .ok (.isub, 1) := by decide +kernel
theorem dX5_drawsWithout_16 : decode cX5_drawsWithout 16 = .ok (.aload_n 0, 1) := by decide +kernel
theorem dX5_drawsWithout_17 : decode cX5_drawsWithout 17 = .ok (.iload_n 2, 1) := by decide +kernel
theorem dX5_drawsWithout_18 : decode cX5_drawsWithout 18 = .ok (.invokevirtual 160, 3) := by decide +kernel
theorem dX5_drawsWithout_21 : decode cX5_drawsWithout 21 = .ok (.invokestatic 163, 3) := by decide +kernel
theorem dX5_drawsWithout_24 : decode cX5_drawsWithout 24 = .ok (.lreturn, 1) := by decide +kernel
set_option maxRecDepth 20000 in
theorem ggX5_rules_X5_noCitizen : GoodIn wsX5_rules wsX5_noCitizen := goodIn_r _ [5, 6, 7, 8, 4, 9, 50, 51, 52, 53, 54, 55, 56, 57, 58, 59, 60, 61, 62, 63, 64, 65, 66, 67, 68, 69, 70, 71, 72, 73] (by decide +kernel) (by decide +kernel)
set_option maxRecDepth 20000 in
theorem gX5_rules_X5_noCitizen : GoodIn wsX5_rules (wsV RX5 129 RX5 yX5_noCitizen wsX5_noCitizen) := goodIn_app (goodIn_of _ (by decide +kernel)) ggX5_rules_X5_noCitizen
set_option maxRecDepth 20000 in
theorem ggX5_rules_X5_in : GoodIn wsX5_rules wsX5_in := goodIn_r _ [9] (by decide +kernel) (by decide +kernel)
set_option maxRecDepth 20000 in
theorem gX5_rules_X5_in : GoodIn wsX5_rules (va_wsS RX5 56 yX5_in wsX5_in) := goodIn_app (goodIn_of _ (by decide +kernel)) ggX5_rules_X5_in
set_option maxRecDepth 20000 in
theorem ggX5_rules_X5_lost : GoodIn wsX5_rules wsX5_lost := goodIn_r _ [12, 13] (by decide +kernel) (by decide +kernel)
set_option maxRecDepth 20000 in
theorem gX5_rules_X5_lost : GoodIn wsX5_rules (va_wsS RX5 49 yX5_lost wsX5_lost) := goodIn_app (goodIn_of _ (by decide +kernel)) ggX5_rules_X5_lost
set_option maxRecDepth 20000 in
theorem ggX5_rules_X5_drawsWithout : GoodIn wsX5_rules wsX5_drawsWithout := goodIn_r _ [17, 18, 19, 20, 4, 21, 6, 22, 23, 24, 25, 26, 27, 28, 29, 30, 31, 32, 33, 34, 35, 36, 37, 38, 39, 40, 41, 42, 50, 51, 52, 53, 54, 55, 56, 57, 58, 59, 60, 61, 62, 63, 64, 65, 66, 67, 68, 69, 70, 71, 72, 73] (by decide +kernel) (by decide +kernel)
set_option maxRecDepth 20000 in
theorem gX5_rules_X5_drawsWithout : GoodIn wsX5_rules (wsV RX5 167 RX5 yX5_drawsWithout wsX5_drawsWithout) := goodIn_app (goodIn_of _ (by decide +kernel)) ggX5_rules_X5_drawsWithout
set_option maxRecDepth 20000 in
theorem ggX5_rules_X5_allDraws : GoodIn wsX5_rules wsX5_allDraws := goodIn_r _ [46, 18, 19, 20, 4, 21, 6, 22, 23, 24, 25, 26, 27, 28, 29, 30, 31, 32, 33, 34, 35, 36, 37, 38, 39, 40, 41, 42, 50, 51, 52, 53, 54, 55, 56, 57, 58, 59, 60, 61, 62, 63, 64, 65, 66, 67, 68, 69, 70, 71, 72, 73] (by decide +kernel) (by decide +kernel)
set_option maxRecDepth 20000 in
theorem gX5_rules_X5_allDraws : GoodIn wsX5_rules (wsV RX5 171 RX5 yX5_allDraws wsX5_allDraws) := goodIn_app (goodIn_of _ (by decide +kernel)) ggX5_rules_X5_allDraws
set_option maxRecDepth 20000 in
theorem ggX5_rules_X5_share : GoodIn wsX5_rules wsX5_share := goodIn_r _ [49] (by decide +kernel) (by decide +kernel)
set_option maxRecDepth 20000 in
theorem gX5_rules_X5_share : GoodIn wsX5_rules (va_wsS RX5 174 yX5_share wsX5_share) := goodIn_app (goodIn_of _ (by decide +kernel)) ggX5_rules_X5_share
theorem dX5_rules_0 : decode cX5_rules 0 = .ok (.aload_n 0, 1) := by decide +kernel
theorem dX5_rules_1 : decode cX5_rules 1 = .ok (.iload_n 1, 1) := by decide +kernel
theorem dX5_rules_2 : decode cX5_rules 2 = .ok (.invokevirtual 129, 3) := by decide +kernel
theorem dX5_rules_5 : decode cX5_rules 5 = .ok (.ifCond .ne 13, 3) := by decide +kernel
theorem dX5_rules_8 : decode cX5_rules 8 = .ok (.iload_n 2, 1) := by decide +kernel
theorem dX5_rules_9 : decode cX5_rules 9 = .ok (.i2l, 1) := by decide +kernel
theorem dX5_rules_10 : decode cX5_rules 10 = .ok (.lconst 0, 1) := by decide +kernel
theorem dX5_rules_11 : decode cX5_rules 11 = .ok (.lconst 1, 1) := by decide +kernel
theorem dX5_rules_12 : decode cX5_rules 12 = .ok (.invokestatic 56, 3) := by decide +kernel
theorem dX5_rules_15 : decode cX5_rules 15 = .ok (.ifCond .ne 9, 3) := by decide +kernel
theorem dX5_rules_18 : decode cX5_rules 18 = .ok (.invokestatic 49, 3) := by decide +kernel
theorem dX5_rules_21 : decode cX5_rules 21 = .ok (.goto 16, 3) := by decide +kernel
theorem dX5_rules_24 : decode cX5_rules 24 = .ok (.aload_n 0, 1) := by decide +kernel
theorem dX5_rules_25 : decode cX5_rules 25 = .ok (.iload_n 1, 1) := by decide +kernel
theorem dX5_rules_26 : decode cX5_rules 26 = .ok (.invokevirtual 167, 3) := by decide +kernel
theorem dX5_rules_29 : decode cX5_rules 29 = .ok (.aload_n 0, 1) := by decide +kernel
theorem dX5_rules_30 : decode cX5_rules 30 = .ok (.invokevirtual 171, 3) := by decide +kernel
theorem dX5_rules_33 : decode cX5_rules 33 = .ok (.iload_n 2, 1) := by decide +kernel
theorem dX5_rules_34 : decode cX5_rules 34 = .ok (.invokestatic 174, 3) := by decide +kernel
theorem dX5_rules_37 : decode cX5_rules 37 = .ok (.lreturn, 1) := by decide +kernel
set_option maxRecDepth 20000 in
theorem ggX5_just_X5_everybody : GoodIn wsX5_just wsX5_everybody := goodIn_r _ [6, 1, 49, 50, 51, 52, 53, 54, 55, 56, 57, 58, 59, 60, 61, 62, 63, 64, 65, 66, 67, 68, 69, 70, 71, 72] (by decide +kernel) (by decide +kernel)
set_option maxRecDepth 20000 in
theorem gX5_just_X5_everybody : GoodIn wsX5_just (wsV RX5 145 RX5 yX5_everybody wsX5_everybody) := goodIn_app (goodIn_of _ (by decide +kernel)) ggX5_just_X5_everybody
set_option maxRecDepth 20000 in
theorem ggX5_just_X5_in : GoodIn wsX5_just wsX5_in := goodIn_r _ [9] (by decide +kernel) (by decide +kernel)
set_option maxRecDepth 20000 in
theorem gX5_just_X5_in : GoodIn wsX5_just (va_wsS RX5 56 yX5_in wsX5_in) := goodIn_app (goodIn_of _ (by decide +kernel)) ggX5_just_X5_in
set_option maxRecDepth 20000 in
theorem ggX5_just_X5_lost : GoodIn wsX5_just wsX5_lost := goodIn_r _ [12, 13] (by decide +kernel) (by decide +kernel)
set_option maxRecDepth 20000 in
theorem gX5_just_X5_lost : GoodIn wsX5_just (va_wsS RX5 49 yX5_lost wsX5_lost) := goodIn_app (goodIn_of _ (by decide +kernel)) ggX5_just_X5_lost
set_option maxRecDepth 20000 in
theorem ggX5_just_X5_drawsOf : GoodIn wsX5_just wsX5_drawsOf := goodIn_r _ [17, 2, 3, 4, 5, 6, 1, 18, 19, 20, 21, 22, 23, 24, 25, 26, 27, 28, 29, 30, 31, 32, 33, 34, 35, 36, 37, 38, 39, 40, 41, 49, 50, 51, 52, 53, 54, 55, 56, 57, 58, 59, 60, 61, 62, 63, 64, 65, 66, 67, 68, 69, 70, 71, 72] (by decide +kernel) (by decide +kernel)
set_option maxRecDepth 20000 in
theorem gX5_just_X5_drawsOf : GoodIn wsX5_just (wsV RX5 178 RX5 yX5_drawsOf wsX5_drawsOf) := goodIn_app (goodIn_of _ (by decide +kernel)) ggX5_just_X5_drawsOf
set_option maxRecDepth 20000 in
theorem ggX5_just_X5_allDraws : GoodIn wsX5_just wsX5_allDraws := goodIn_r _ [45, 2, 3, 4, 5, 6, 1, 18, 19, 20, 21, 22, 23, 24, 25, 26, 27, 28, 29, 30, 31, 32, 33, 34, 35, 36, 37, 38, 49, 50, 51, 52, 53, 54, 55, 56, 57, 58, 59, 60, 61, 62, 63, 64, 65, 66, 67, 68, 69, 70, 71, 72] (by decide +kernel) (by decide +kernel)
set_option maxRecDepth 20000 in
theorem gX5_just_X5_allDraws : GoodIn wsX5_just (wsV RX5 171 RX5 yX5_allDraws wsX5_allDraws) := goodIn_app (goodIn_of _ (by decide +kernel)) ggX5_just_X5_allDraws
set_option maxRecDepth 20000 in
theorem ggX5_just_X5_share : GoodIn wsX5_just wsX5_share := goodIn_r _ [48] (by decide +kernel) (by decide +kernel)
set_option maxRecDepth 20000 in
theorem gX5_just_X5_share : GoodIn wsX5_just (va_wsS RX5 174 yX5_share wsX5_share) := goodIn_app (goodIn_of _ (by decide +kernel)) ggX5_just_X5_share
theorem dX5_just_0 : decode cX5_just 0 = .ok (.aload_n 0, 1) := by decide +kernel
theorem dX5_just_1 : decode cX5_just 1 = .ok (.getfield 53, 3) := by decide +kernel
theorem dX5_just_4 : decode cX5_just 4 = .ok (.ifCond .eq 27, 3) := by decide +kernel
theorem dX5_just_7 : decode cX5_just 7 = .ok (.iload_n 1, 1) := by decide +kernel
theorem dX5_just_8 : decode cX5_just 8 = .ok (.i2l, 1) := by decide +kernel
theorem dX5_just_9 : decode cX5_just 9 = .ok (.lconst 0, 1) := by decide +kernel
theorem dX5_just_10 : decode cX5_just 10 = .ok (.aload_n 0, 1) := by decide +kernel
theorem dX5_just_11 : decode cX5_just 11 = .ok (.invokevirtual 145, 3) := by decide +kernel
theorem dX5_just_14 : decode cX5_just 14 = .ok (.i2l, 1) := by decide +kernel
theorem dX5_just_15 : decode cX5_just 15 = .ok (.invokestatic 56, 3) := by decide +kernel
theorem dX5_just_18 : decode cX5_just 18 = .ok (.ifCond .eq 13, 3) := by decide +kernel
theorem dX5_just_21 : decode cX5_just 21 = .ok (.iload_n 2, 1) := by decide +kernel
theorem dX5_just_22 : decode cX5_just 22 = .ok (.i2l, 1) := by decide +kernel
theorem dX5_just_23 : decode cX5_just 23 = .ok (.lconst 0, 1) := by decide +kernel
theorem dX5_just_24 : decode cX5_just 24 = .ok (.lconst 1, 1) := by decide +kernel
theorem dX5_just_25 : decode cX5_just 25 = .ok (.invokestatic 56, 3) := by decide +kernel
theorem dX5_just_28 : decode cX5_just 28 = .ok (.ifCond .ne 7, 3) := by decide +kernel
theorem dX5_just_31 : decode cX5_just 31 = .ok (.invokestatic 49, 3) := by decide +kernel
theorem dX5_just_34 : decode cX5_just 34 = .ok (.lreturn, 1) := by decide +kernel
theorem dX5_just_35 : decode cX5_just 35 = .ok (.aload_n 0, 1) := by decide +kernel
theorem dX5_just_36 : decode cX5_just 36 = .ok (.iload_n 1, 1) := by decide +kernel
theorem dX5_just_37 : decode cX5_just 37 = .ok (.invokevirtual 178, 3) := by decide +kernel
theorem dX5_just_40 : decode cX5_just 40 = .ok (.aload_n 0, 1) := by decide +kernel
theorem dX5_just_41 : decode cX5_just 41 = .ok (.invokevirtual 171, 3) := by decide +kernel
theorem dX5_just_44 : decode cX5_just 44 = .ok (.iload_n 2, 1) := by decide +kernel
theorem dX5_just_45 : decode cX5_just 45 = .ok (.invokestatic 174, 3) := by decide +kernel
theorem dX5_just_48 : decode cX5_just 48 = .ok (.lreturn, 1) := by decide +kernel
set_option maxRecDepth 20000 in
theorem ggX5_mean_X5_in : GoodIn wsX5_mean wsX5_in := goodIn_r _ [5] (by decide +kernel) (by decide +kernel)
set_option maxRecDepth 20000 in
theorem gX5_mean_X5_in : GoodIn wsX5_mean (va_wsS RX5 56 yX5_in wsX5_in) := goodIn_app (goodIn_of _ (by decide +kernel)) ggX5_mean_X5_in
set_option maxRecDepth 20000 in
theorem ggX5_mean_X5_lost : GoodIn wsX5_mean wsX5_lost := goodIn_r _ [8, 9] (by decide +kernel) (by decide +kernel)
set_option maxRecDepth 20000 in
theorem gX5_mean_X5_lost : GoodIn wsX5_mean (va_wsS RX5 49 yX5_lost wsX5_lost) := goodIn_app (goodIn_of _ (by decide +kernel)) ggX5_mean_X5_lost
set_option maxRecDepth 20000 in
theorem ggX5_mean_X5_drawsWithout : GoodIn wsX5_mean wsX5_drawsWithout := goodIn_r _ [13, 14, 15, 16, 4, 17, 1, 18, 19, 20, 21, 22, 23, 24, 25, 26, 27, 28, 29, 30, 31, 32, 33, 34, 35, 36, 37, 38, 46, 47, 48, 49, 50, 51, 52, 53, 54, 55, 56, 57, 58, 59, 60, 61, 62, 63, 64, 65, 66, 67, 68, 69] (by decide +kernel) (by decide +kernel)
set_option maxRecDepth 20000 in
theorem gX5_mean_X5_drawsWithout : GoodIn wsX5_mean (wsV RX5 167 RX5 yX5_drawsWithout wsX5_drawsWithout) := goodIn_app (goodIn_of _ (by decide +kernel)) ggX5_mean_X5_drawsWithout
set_option maxRecDepth 20000 in
theorem ggX5_mean_X5_allDraws : GoodIn wsX5_mean wsX5_allDraws := goodIn_r _ [42, 14, 15, 16, 4, 17, 1, 18, 19, 20, 21, 22, 23, 24, 25, 26, 27, 28, 29, 30, 31, 32, 33, 34, 35, 36, 37, 38, 46, 47, 48, 49, 50, 51, 52, 53, 54, 55, 56, 57, 58, 59, 60, 61, 62, 63, 64, 65, 66, 67, 68, 69] (by decide +kernel) (by decide +kernel)
set_option maxRecDepth 20000 in
theorem gX5_mean_X5_allDraws : GoodIn wsX5_mean (wsV RX5 171 RX5 yX5_allDraws wsX5_allDraws) := goodIn_app (goodIn_of _ (by decide +kernel)) ggX5_mean_X5_allDraws
set_option maxRecDepth 20000 in
theorem ggX5_mean_X5_share : GoodIn wsX5_mean wsX5_share := goodIn_r _ [45] (by decide +kernel) (by decide +kernel)
set_option maxRecDepth 20000 in
theorem gX5_mean_X5_share : GoodIn wsX5_mean (va_wsS RX5 174 yX5_share wsX5_share) := goodIn_app (goodIn_of _ (by decide +kernel)) ggX5_mean_X5_share
theorem dX5_mean_0 : decode cX5_mean 0 = .ok (.aload_n 0, 1) := by decide +kernel
theorem dX5_mean_1 : decode cX5_mean 1 = .ok (.getfield 53, 3) := by decide +kernel
theorem dX5_mean_4 : decode cX5_mean 4 = .ok (.ifCond .eq 13, 3) := by decide +kernel
theorem dX5_mean_7 : decode cX5_mean 7 = .ok (.iload_n 1, 1) := by decide +kernel
theorem dX5_mean_8 : decode cX5_mean 8 = .ok (.i2l, 1) := by decide +kernel
theorem dX5_mean_9 : decode cX5_mean 9 = .ok (.lconst 0, 1) := by decide +kernel
theorem dX5_mean_10 : decode cX5_mean 10 = .ok (.lconst 1, 1) := by decide +kernel
theorem dX5_mean_11 : decode cX5_mean 11 = .ok (.invokestatic 56, 3) := by decide +kernel
theorem dX5_mean_14 : decode cX5_mean 14 = .ok (.ifCond .ne 7, 3) := by decide +kernel
theorem dX5_mean_17 : decode cX5_mean 17 = .ok (.invokestatic 49, 3) := by decide +kernel
theorem dX5_mean_20 : decode cX5_mean 20 = .ok (.lreturn, 1) := by decide +kernel
theorem dX5_mean_21 : decode cX5_mean 21 = .ok (.lconst 0, 1) := by decide +kernel
theorem dX5_mean_22 : decode cX5_mean 22 = .ok (.lstore_n 2, 1) := by decide +kernel
theorem dX5_mean_23 : decode cX5_mean 23 = .ok (.iconst 0, 1) := by decide +kernel
theorem dX5_mean_24 : decode cX5_mean 24 = .ok (.istore 4, 2) := by decide +kernel
theorem dX5_mean_26 : decode cX5_mean 26 = .ok (.iload 4, 2) := by decide +kernel
theorem dX5_mean_28 : decode cX5_mean 28 = .ok (.aload_n 0, 1) := by decide +kernel
theorem dX5_mean_29 : decode cX5_mean 29 = .ok (.getfield 53, 3) := by decide +kernel
theorem dX5_mean_32 : decode cX5_mean 32 = .ok (.if_icmp .ge 18, 3) := by decide +kernel
theorem dX5_mean_35 : decode cX5_mean 35 = .ok (.lload_n 2, 1) := by decide +kernel
theorem dX5_mean_36 : decode cX5_mean 36 = .ok (.aload_n 0, 1) := by decide +kernel
theorem dX5_mean_37 : decode cX5_mean 37 = .ok (.iload 4, 2) := by decide +kernel
theorem dX5_mean_39 : decode cX5_mean 39 = .ok (.invokevirtual 167, 3) := by decide +kernel
theorem dX5_mean_42 : decode cX5_mean 42 = .ok (.ladd, 1) := by decide +kernel
theorem dX5_mean_43 : decode cX5_mean 43 = .ok (.lstore_n 2, 1) := by decide +kernel
theorem dX5_mean_44 : decode cX5_mean 44 = .ok (.iinc 4 1, 3) := by decide +kernel
theorem dX5_mean_47 : decode cX5_mean 47 = .ok (.goto (-21), 3) := by decide +kernel
theorem dX5_mean_50 : decode cX5_mean 50 = .ok (.lload_n 2, 1) := by decide +kernel
theorem dX5_mean_51 : decode cX5_mean 51 = .ok (.aload_n 0, 1) := by decide +kernel
theorem dX5_mean_52 : decode cX5_mean 52 = .ok (.invokevirtual 171, 3) := by decide +kernel
theorem dX5_mean_55 : decode cX5_mean 55 = .ok (.iload_n 1, 1) := by decide +kernel
theorem dX5_mean_56 : decode cX5_mean 56 = .ok (.invokestatic 174, 3) := by decide +kernel
theorem dX5_mean_59 : decode cX5_mean 59 = .ok (.lreturn, 1) := by decide +kernel
set_option maxRecDepth 20000 in
theorem ggX5_passingDraws_X5_everybody : GoodIn wsX5_passingDraws wsX5_everybody := goodIn_r _ [5, 6, 40, 41, 42, 43, 44, 45, 46, 47, 48, 49, 50, 51, 52, 53, 54, 55, 56, 57, 58, 59, 60, 61, 62, 63] (by decide +kernel) (by decide +kernel)
set_option maxRecDepth 20000 in
theorem gX5_passingDraws_X5_everybody : GoodIn wsX5_passingDraws (wsV RX5 145 RX5 yX5_everybody wsX5_everybody) := goodIn_app (goodIn_of _ (by decide +kernel)) ggX5_passingDraws_X5_everybody
set_option maxRecDepth 20000 in
theorem ggX5_passingDraws_X5_doesPass : GoodIn wsX5_passingDraws wsX5_doesPass := goodIn_r _ [10, 11, 12, 13, 4, 14, 40, 41, 42, 43, 44, 45, 46, 47, 48, 49, 50, 51, 52, 53, 54, 55, 56, 57, 58, 59, 60, 61, 62, 63] (by decide +kernel) (by decide +kernel)
set_option maxRecDepth 20000 in
theorem gX5_passingDraws_X5_doesPass : GoodIn wsX5_passingDraws (wsV RX5 157 RX5 yX5_doesPass wsX5_doesPass) := goodIn_app (goodIn_of _ (by decide +kernel)) ggX5_passingDraws_X5_doesPass
set_option maxRecDepth 20000 in
theorem ggX5_passingDraws_X5_drawsOf : GoodIn wsX5_passingDraws wsX5_drawsOf := goodIn_r _ [18, 1, 2, 3, 4, 5, 6, 19, 20, 21, 22, 23, 24, 25, 26, 27, 28, 29, 30, 31, 32, 33, 34, 35, 36, 37, 38, 39, 12, 13, 14, 40, 41, 42, 43, 44, 45, 46, 47, 48, 49, 50, 51, 52, 53, 54, 55, 56, 57, 58, 59, 60, 61, 62, 63] (by decide +kernel) (by decide +kernel)
set_option maxRecDepth 20000 in
theorem gX5_passingDraws_X5_drawsOf : GoodIn wsX5_passingDraws (wsV RX5 178 RX5 yX5_drawsOf wsX5_drawsOf) := goodIn_app (goodIn_of _ (by decide +kernel)) ggX5_passingDraws_X5_drawsOf
theorem dX5_passingDraws_0 : decode cX5_passingDraws 0 = .ok (.lconst 0, 1) := by decide +kernel
theorem dX5_passingDraws_1 : decode cX5_passingDraws 1 = .ok (.lstore_n 1, 1) := by decide +kernel
theorem dX5_passingDraws_2 : decode cX5_passingDraws 2 = .ok (.iconst 0, 1) := by decide +kernel
theorem dX5_passingDraws_3 : decode cX5_passingDraws 3 = .ok (.istore_n 3, 1) := by decide +kernel
theorem dX5_passingDraws_4 : decode cX5_passingDraws 4 = .ok (.iload_n 3, 1) := by decide +kernel
theorem dX5_passingDraws_5 : decode cX5_passingDraws 5 = .ok (.aload_n 0, 1) := by decide +kernel
theorem dX5_passingDraws_6 : decode cX5_passingDraws 6 = .ok (.invokevirtual 145, 3) := by decide +kernel
theorem dX5_passingDraws_9 : decode cX5_passingDraws 9 = .ok (.if_icmp .gt 29, 3) := by decide +kernel
theorem dX5_passingDraws_12 : decode cX5_passingDraws 12 = .ok (.lload_n 1, 1) := by decide +kernel
theorem dX5_passingDraws_13 : decode cX5_passingDraws 13 = .ok (.aload_n 0, 1) := by decide +kernel
theorem dX5_passingDraws_14 : decode cX5_passingDraws 14 = .ok (.iload_n 3, 1) := by decide +kernel
theorem dX5_passingDraws_15 : decode cX5_passingDraws 15 = .ok (.invokevirtual 157, 3) := by decide +kernel
theorem dX5_passingDraws_18 : decode cX5_passingDraws 18 = .ok (.ifCond .eq 11, 3) := by decide +kernel
theorem dX5_passingDraws_21 : decode cX5_passingDraws 21 = .ok (.aload_n 0, 1) := by decide +kernel
theorem dX5_passingDraws_22 : decode cX5_passingDraws 22 = .ok (.iload_n 3, 1) := by decide +kernel
theorem dX5_passingDraws_23 : decode cX5_passingDraws 23 = .ok (.invokevirtual 178, 3) := by decide +kernel
theorem dX5_passingDraws_26 : decode cX5_passingDraws 26 = .ok (.goto 4, 3) := by decide +kernel
theorem dX5_passingDraws_29 : decode cX5_passingDraws 29 = .ok (.lconst 0, 1) := by decide +kernel
theorem dX5_passingDraws_30 : decode cX5_passingDraws 30 = .ok (.ladd, 1) := by decide +kernel
theorem dX5_passingDraws_31 : decode cX5_passingDraws 31 = .ok (.lstore_n 1, 1) := by decide +kernel
theorem dX5_passingDraws_32 : decode cX5_passingDraws 32 = .ok (.iinc 3 1, 3) := by decide +kernel
theorem dX5_passingDraws_35 : decode cX5_passingDraws 35 = .ok (.goto (-31), 3) := by decide +kernel
theorem dX5_passingDraws_38 : decode cX5_passingDraws 38 = .ok (.lload_n 1, 1) := by decide +kernel
theorem dX5_passingDraws_39 : decode cX5_passingDraws 39 = .ok (.lreturn, 1) := by decide +kernel
set_option maxRecDepth 20000 in
theorem ggX5_passes_X5_in : GoodIn wsX5_passes wsX5_in := goodIn_r _ [5] (by decide +kernel) (by decide +kernel)
set_option maxRecDepth 20000 in
theorem gX5_passes_X5_in : GoodIn wsX5_passes (va_wsS RX5 56 yX5_in wsX5_in) := goodIn_app (goodIn_of _ (by decide +kernel)) ggX5_passes_X5_in
set_option maxRecDepth 20000 in
theorem ggX5_passes_X5_lost : GoodIn wsX5_passes wsX5_lost := goodIn_r _ [8, 9] (by decide +kernel) (by decide +kernel)
set_option maxRecDepth 20000 in
theorem gX5_passes_X5_lost : GoodIn wsX5_passes (va_wsS RX5 49 yX5_lost wsX5_lost) := goodIn_app (goodIn_of _ (by decide +kernel)) ggX5_passes_X5_lost
set_option maxRecDepth 20000 in
theorem ggX5_passes_X5_passingDraws : GoodIn wsX5_passes wsX5_passingDraws := goodIn_r _ [13, 14, 15, 16, 4, 17, 1, 18, 19, 20, 21, 22, 23, 24, 25, 26, 27, 28, 29, 30, 31, 32, 33, 34, 35, 36, 37, 38, 39, 40, 41, 42, 43, 44, 45, 46, 47, 48, 49, 50, 58, 59, 60, 61, 62, 63, 64, 65, 66, 67, 68, 69, 70, 71, 72, 73, 74, 75, 76, 77, 78, 79, 80, 81] (by decide +kernel) (by decide +kernel)
set_option maxRecDepth 20000 in
theorem gX5_passes_X5_passingDraws : GoodIn wsX5_passes (wsV RX5 181 RX5 yX5_passingDraws wsX5_passingDraws) := goodIn_app (goodIn_of _ (by decide +kernel)) ggX5_passes_X5_passingDraws
set_option maxRecDepth 20000 in
theorem ggX5_passes_X5_allDraws : GoodIn wsX5_passes wsX5_allDraws := goodIn_r _ [54, 14, 15, 16, 4, 17, 1, 30, 31, 32, 33, 34, 35, 36, 37, 38, 39, 40, 41, 42, 43, 44, 45, 46, 47, 48, 49, 50, 58, 59, 60, 61, 62, 63, 64, 65, 66, 67, 68, 69, 70, 71, 72, 73, 74, 75, 76, 77, 78, 79, 80, 81] (by decide +kernel) (by decide +kernel)
set_option maxRecDepth 20000 in
theorem gX5_passes_X5_allDraws : GoodIn wsX5_passes (wsV RX5 171 RX5 yX5_allDraws wsX5_allDraws) := goodIn_app (goodIn_of _ (by decide +kernel)) ggX5_passes_X5_allDraws
set_option maxRecDepth 20000 in
theorem ggX5_passes_X5_share : GoodIn wsX5_passes wsX5_share := goodIn_r _ [57] (by decide +kernel) (by decide +kernel)
set_option maxRecDepth 20000 in
theorem gX5_passes_X5_share : GoodIn wsX5_passes (va_wsS RX5 174 yX5_share wsX5_share) := goodIn_app (goodIn_of _ (by decide +kernel)) ggX5_passes_X5_share
theorem dX5_passes_0 : decode cX5_passes 0 = .ok (.aload_n 0, 1) := by decide +kernel
theorem dX5_passes_1 : decode cX5_passes 1 = .ok (.getfield 53, 3) := by decide +kernel
theorem dX5_passes_4 : decode cX5_passes 4 = .ok (.ifCond .eq 13, 3) := by decide +kernel
theorem dX5_passes_7 : decode cX5_passes 7 = .ok (.iload_n 1, 1) := by decide +kernel
theorem dX5_passes_8 : decode cX5_passes 8 = .ok (.i2l, 1) := by decide +kernel
theorem dX5_passes_9 : decode cX5_passes 9 = .ok (.lconst 0, 1) := by decide +kernel
theorem dX5_passes_10 : decode cX5_passes 10 = .ok (.lconst 1, 1) := by decide +kernel
theorem dX5_passes_11 : decode cX5_passes 11 = .ok (.invokestatic 56, 3) := by decide +kernel
theorem dX5_passes_14 : decode cX5_passes 14 = .ok (.ifCond .ne 9, 3) := by decide +kernel
theorem dX5_passes_17 : decode cX5_passes 17 = .ok (.invokestatic 49, 3) := by decide +kernel
theorem dX5_passes_20 : decode cX5_passes 20 = .ok (.goto 15, 3) := by decide +kernel
theorem dX5_passes_23 : decode cX5_passes 23 = .ok (.aload_n 0, 1) := by decide +kernel
theorem dX5_passes_24 : decode cX5_passes 24 = .ok (.invokevirtual 181, 3) := by decide +kernel
theorem dX5_passes_27 : decode cX5_passes 27 = .ok (.aload_n 0, 1) := by decide +kernel
theorem dX5_passes_28 : decode cX5_passes 28 = .ok (.invokevirtual 171, 3) := by decide +kernel
theorem dX5_passes_31 : decode cX5_passes 31 = .ok (.iload_n 1, 1) := by decide +kernel
theorem dX5_passes_32 : decode cX5_passes 32 = .ok (.invokestatic 174, 3) := by decide +kernel
theorem dX5_passes_35 : decode cX5_passes 35 = .ok (.lreturn, 1) := by decide +kernel
end
section
set_option maxRecDepth 20000 in
theorem ggX5_buy_X5_noCitizen : GoodIn wsX5_buy wsX5_noCitizen := goodIn_r _ [8, 9, 10, 11, 7, 12, 38, 39, 40, 41, 42, 43, 44, 45, 46, 47, 48, 49, 50, 51, 52, 53, 54, 55, 56, 57, 58, 59, 60, 61] (by decide +kernel) (by decide +kernel)
set_option maxRecDepth 20000 in
theorem gX5_buy_X5_noCitizen : GoodIn wsX5_buy (wsV RX5 129 RX5 yX5_noCitizen wsX5_noCitizen) := goodIn_app (goodIn_of _ (by decide +kernel)) ggX5_buy_X5_noCitizen
set_option maxRecDepth 20000 in
theorem ggX5_buy_X5_in : GoodIn wsX5_buy wsX5_in := goodIn_r _ [12] (by decide +kernel) (by decide +kernel)
set_option maxRecDepth 20000 in
theorem gX5_buy_X5_in : GoodIn wsX5_buy (va_wsS RX5 56 yX5_in wsX5_in) := goodIn_app (goodIn_of _ (by decide +kernel)) ggX5_buy_X5_in
set_option maxRecDepth 20000 in
theorem ggX5_buy_X5_everybody : GoodIn wsX5_buy wsX5_everybody := goodIn_r _ [16, 9, 38, 39, 40, 41, 42, 43, 44, 45, 46, 47, 48, 49, 50, 51, 52, 53, 54, 55, 56, 57, 58, 59, 60, 61] (by decide +kernel) (by decide +kernel)
set_option maxRecDepth 20000 in
theorem gX5_buy_X5_everybody : GoodIn wsX5_buy (wsV RX5 145 RX5 yX5_everybody wsX5_everybody) := goodIn_app (goodIn_of _ (by decide +kernel)) ggX5_buy_X5_everybody
set_option maxRecDepth 20000 in
theorem ggX5_buy_X5_slipsOfAll : GoodIn wsX5_buy wsX5_slipsOfAll := goodIn_r _ [20, 9, 21, 22, 7, 23, 24, 25, 26, 27, 28, 29, 38, 39, 40, 41, 42, 43, 44, 45, 46, 47, 48, 49, 50, 51, 52, 53, 54, 55, 56, 57, 58, 59, 60, 61] (by decide +kernel) (by decide +kernel)
set_option maxRecDepth 20000 in
theorem gX5_buy_X5_slipsOfAll : GoodIn wsX5_buy (wsV RX5 132 RX5 yX5_slipsOfAll wsX5_slipsOfAll) := goodIn_app (goodIn_of _ (by decide +kernel)) ggX5_buy_X5_slipsOfAll
set_option maxRecDepth 20000 in
theorem ggX5_buy_X5_drawnOf : GoodIn wsX5_buy wsX5_drawnOf := goodIn_r _ [33, 34, 38, 39, 40, 41, 42, 43, 44, 45, 46, 47, 48, 49, 50, 51, 52, 53, 54, 55, 56, 57, 58, 59, 60, 61] (by decide +kernel) (by decide +kernel)
set_option maxRecDepth 20000 in
theorem gX5_buy_X5_drawnOf : GoodIn wsX5_buy (wsV RX5 160 RX5 yX5_drawnOf wsX5_drawnOf) := goodIn_app (goodIn_of _ (by decide +kernel)) ggX5_buy_X5_drawnOf
set_option maxRecDepth 20000 in
theorem ggX5_buy_X5_waysOf : GoodIn wsX5_buy wsX5_waysOf := goodIn_r _ [37] (by decide +kernel) (by decide +kernel)
set_option maxRecDepth 20000 in
theorem gX5_buy_X5_waysOf : GoodIn wsX5_buy (va_wsS RX5 163 yX5_waysOf wsX5_waysOf) := goodIn_app (goodIn_of _ (by decide +kernel)) ggX5_buy_X5_waysOf
set_option maxRecDepth 20000 in
theorem ggX5_buy_X5_slipsOf : GoodIn wsX5_buy wsX5_slipsOf := goodIn_r _ [27, 28, 29, 38, 39, 40, 41, 42, 43, 44, 45, 46, 47, 48, 49, 50, 51, 52, 53, 54, 55, 56, 57, 58, 59, 60, 61] (by decide +kernel) (by decide +kernel)
set_option maxRecDepth 20000 in
theorem gX5_buy_X5_slipsOf : GoodIn wsX5_buy (wsV RX5 126 RX5 yX5_slipsOf wsX5_slipsOf) := goodIn_app (goodIn_of _ (by decide +kernel)) ggX5_buy_X5_slipsOf
theorem dX5_buy_0 : decode cX5_buy 0 = .ok (.aload_n 0, 1) := by decide +kernel
theorem dX5_buy_1 : decode cX5_buy 1 = .ok (.iload_n 1, 1) := by decide +kernel
theorem dX5_buy_2 : decode cX5_buy 2 = .ok (.invokevirtual 129, 3) := by decide +kernel
theorem dX5_buy_5 : decode cX5_buy 5 = .ok (.ifCond .eq 5, 3) := by decide +kernel
theorem dX5_buy_8 : decode cX5_buy 8 = .ok (.iconst (-1), 1) := by decide +kernel
theorem dX5_buy_9 : decode cX5_buy 9 = .ok (.ireturn, 1) := by decide +kernel
theorem dX5_buy_10 : decode cX5_buy 10 = .ok (.iload_n 2, 1) := by decide +kernel
theorem dX5_buy_11 : decode cX5_buy 11 = .ok (.i2l, 1) := by decide +kernel
theorem dX5_buy_12 : decode cX5_buy 12 = .ok (.lconst 0, 1) := by decide +kernel
theorem dX5_buy_13 : decode cX5_buy 13 = .ok (.ldc2_w 184, 3) := by decide +kernel
theorem dX5_buy_16 : decode cX5_buy 16 = .ok (.invokestatic 56, 3) := by decide +kernel
theorem dX5_buy_19 : decode cX5_buy 19 = .ok (.ifCond .eq 15, 3) := by decide +kernel
theorem dX5_buy_22 : decode cX5_buy 22 = .ok (.iload_n 3, 1) := by decide +kernel
theorem dX5_buy_23 : decode cX5_buy 23 = .ok (.i2l, 1) := by decide +kernel
theorem dX5_buy_24 : decode cX5_buy 24 = .ok (.lconst 1, 1) := by decide +kernel
theorem dX5_buy_25 : decode cX5_buy 25 = .ok (.ldc2_w 184, 3) := by decide +kernel
theorem dX5_buy_28 : decode cX5_buy 28 = .ok (.invokestatic 56, 3) := by decide +kernel
theorem dX5_buy_31 : decode cX5_buy 31 = .ok (.ifCond .ne 6, 3) := by decide +kernel
theorem dX5_buy_34 : decode cX5_buy 34 = .ok (.bipush (-2), 2) := by decide +kernel
theorem dX5_buy_36 : decode cX5_buy 36 = .ok (.ireturn, 1) := by decide +kernel
theorem dX5_buy_37 : decode cX5_buy 37 = .ok (.aload_n 0, 1) := by decide +kernel
theorem dX5_buy_38 : decode cX5_buy 38 = .ok (.aload_n 0, 1) := by decide +kernel
theorem dX5_buy_39 : decode cX5_buy 39 = .ok (.invokevirtual 145, 3) := by decide +kernel
theorem dX5_buy_42 : decode cX5_buy 42 = .ok (.invokevirtual 132, 3) := by decide +kernel
theorem dX5_buy_45 : decode cX5_buy 45 = .ok (.istore 4, 2) := by decide +kernel
theorem dX5_buy_47 : decode cX5_buy 47 = .ok (.iconst 0, 1) := by decide +kernel
theorem dX5_buy_48 : decode cX5_buy 48 = .ok (.istore 5, 2) := by decide +kernel
theorem dX5_buy_50 : decode cX5_buy 50 = .ok (.iload 5, 2) := by decide +kernel
theorem dX5_buy_52 : decode cX5_buy 52 = .ok (.bipush 20, 2) := by decide +kernel
theorem dX5_buy_54 : decode cX5_buy 54 = .ok (.if_icmp .gt 86, 3) := by decide +kernel
theorem dX5_buy_57 : decode cX5_buy 57 = .ok (.iload 5, 2) := by decide +kernel
theorem dX5_buy_59 : decode cX5_buy 59 = .ok (.aload_n 0, 1) := by decide +kernel
theorem dX5_buy_60 : decode cX5_buy 60 = .ok (.getfield 114, 3) := by decide +kernel
theorem dX5_buy_63 : decode cX5_buy 63 = .ok (.imul, 1) := by decide +kernel
theorem dX5_buy_64 : decode cX5_buy 64 = .ok (.aload_n 0, 1) := by decide +kernel
theorem dX5_buy_65 : decode cX5_buy 65 = .ok (.getfield 16, 3) := by decide +kernel
theorem dX5_buy_68 : decode cX5_buy 68 = .ok (.iload_n 1, 1) := by decide +kernel
theorem dX5_buy_69 : decode cX5_buy 69 = .ok (.iaload, 1) := by decide +kernel
theorem dX5_buy_70 : decode cX5_buy 70 = .ok (.if_icmp .gt 70, 3) := by decide +kernel
theorem dX5_buy_73 : decode cX5_buy 73 = .ok (.iload 4, 2) := by decide +kernel
theorem dX5_buy_75 : decode cX5_buy 75 = .ok (.iload 5, 2) := by decide +kernel
theorem dX5_buy_77 : decode cX5_buy 77 = .ok (.iadd, 1) := by decide +kernel
theorem dX5_buy_78 : decode cX5_buy 78 = .ok (.aload_n 0, 1) := by decide +kernel
theorem dX5_buy_79 : decode cX5_buy 79 = .ok (.iload 4, 2) := by decide +kernel
theorem dX5_buy_81 : decode cX5_buy 81 = .ok (.iload 5, 2) := by decide +kernel
theorem dX5_buy_83 : decode cX5_buy 83 = .ok (.iadd, 1) := by decide +kernel
theorem dX5_buy_84 : decode cX5_buy 84 = .ok (.invokevirtual 160, 3) := by decide +kernel
theorem dX5_buy_87 : decode cX5_buy 87 = .ok (.invokestatic 163, 3) := by decide +kernel
theorem dX5_buy_90 : decode cX5_buy 90 = .ok (.lstore 6, 2) := by decide +kernel
theorem dX5_buy_92 : decode cX5_buy 92 = .ok (.lload 6, 2) := by decide +kernel
theorem dX5_buy_94 : decode cX5_buy 94 = .ok (.iload 4, 2) := by decide +kernel
theorem dX5_buy_96 : decode cX5_buy 96 = .ok (.aload_n 0, 1) := by decide +kernel
theorem dX5_buy_97 : decode cX5_buy 97 = .ok (.iload_n 1, 1) := by decide +kernel
theorem dX5_buy_98 : decode cX5_buy 98 = .ok (.invokevirtual 126, 3) := by decide +kernel
theorem dX5_buy_101 : decode cX5_buy 101 = .ok (.isub, 1) := by decide +kernel
theorem dX5_buy_102 : decode cX5_buy 102 = .ok (.aload_n 0, 1) := by decide +kernel
theorem dX5_buy_103 : decode cX5_buy 103 = .ok (.iload 4, 2) := by decide +kernel
theorem dX5_buy_105 : decode cX5_buy 105 = .ok (.iload 5, 2) := by decide +kernel
theorem dX5_buy_107 : decode cX5_buy 107 = .ok (.iadd, 1) := by decide +kernel
theorem dX5_buy_108 : decode cX5_buy 108 = .ok (.invokevirtual 160, 3) := by decide +kernel
theorem dX5_buy_111 : decode cX5_buy 111 = .ok (.invokestatic 163, 3) := by decide +kernel
theorem dX5_buy_114 : decode cX5_buy 114 = .ok (.lsub, 1) := by decide +kernel
theorem dX5_buy_115 : decode cX5_buy 115 = .ok (.lstore 8, 2) := by decide +kernel
theorem dX5_buy_117 : decode cX5_buy 117 = .ok (.lload 8, 2) := by decide +kernel
theorem dX5_buy_119 : decode cX5_buy 119 = .ok (.iload_n 3, 1) := by decide +kernel
theorem dX5_buy_120 : decode cX5_buy 120 = .ok (.i2l, 1) := by decide +kernel
theorem dX5_buy_121 : decode cX5_buy 121 = .ok (.lmul, 1) := by decide +kernel
theorem dX5_buy_122 : decode cX5_buy 122 = .ok (.lload 6, 2) := by decide +kernel
theorem dX5_buy_124 : decode cX5_buy 124 = .ok (.iload_n 2, 1) := by decide +kernel
theorem dX5_buy_125 : decode cX5_buy 125 = .ok (.i2l, 1) := by decide +kernel
theorem dX5_buy_126 : decode cX5_buy 126 = .ok (.lmul, 1) := by decide +kernel
theorem dX5_buy_127 : decode cX5_buy 127 = .ok (.lcmp, 1) := by decide +kernel
theorem dX5_buy_128 : decode cX5_buy 128 = .ok (.ifCond .lt 6, 3) := by decide +kernel
theorem dX5_buy_131 : decode cX5_buy 131 = .ok (.iload 5, 2) := by decide +kernel
theorem dX5_buy_133 : decode cX5_buy 133 = .ok (.ireturn, 1) := by decide +kernel
theorem dX5_buy_134 : decode cX5_buy 134 = .ok (.iinc 5 1, 3) := by decide +kernel
theorem dX5_buy_137 : decode cX5_buy 137 = .ok (.goto (-87), 3) := by decide +kernel
theorem dX5_buy_140 : decode cX5_buy 140 = .ok (.bipush (-9), 2) := by decide +kernel
theorem dX5_buy_142 : decode cX5_buy 142 = .ok (.ireturn, 1) := by decide +kernel
set_option maxRecDepth 20000 in
theorem ggX5_lend_X5_noCitizen : GoodIn wsX5_lend wsX5_noCitizen := goodIn_r _ [7, 2, 8, 9, 6, 10, 58, 59, 60, 61, 62, 63, 64, 65, 66, 67, 68, 69, 70, 71, 72, 73, 74, 75, 76, 77, 78, 79, 80, 81] (by decide +kernel) (by decide +kernel)
set_option maxRecDepth 20000 in
theorem gX5_lend_X5_noCitizen : GoodIn wsX5_lend (wsV RX5 129 RX5 yX5_noCitizen wsX5_noCitizen) := goodIn_app (goodIn_of _ (by decide +kernel)) ggX5_lend_X5_noCitizen
set_option maxRecDepth 20000 in
theorem ggX5_lend_X5_passingDraws : GoodIn wsX5_lend wsX5_passingDraws := goodIn_r _ [14, 15, 16, 17, 6, 18, 2, 19, 20, 21, 22, 23, 24, 25, 26, 27, 28, 29, 30, 31, 32, 33, 34, 35, 36, 37, 38, 39, 40, 41, 1, 42, 43, 44, 45, 46, 47, 48, 49, 50, 58, 59, 60, 61, 62, 63, 64, 65, 66, 67, 68, 69, 70, 71, 72, 73, 74, 75, 76, 77, 78, 79, 80, 81] (by decide +kernel) (by decide +kernel)
set_option maxRecDepth 20000 in
theorem gX5_lend_X5_passingDraws : GoodIn wsX5_lend (wsV RX5 181 RX5 yX5_passingDraws wsX5_passingDraws) := goodIn_app (goodIn_of _ (by decide +kernel)) ggX5_lend_X5_passingDraws
set_option maxRecDepth 20000 in
theorem ggX5_lend_X5_allDraws : GoodIn wsX5_lend wsX5_allDraws := goodIn_r _ [54, 15, 16, 17, 6, 18, 2, 31, 32, 33, 34, 35, 36, 37, 38, 39, 40, 41, 1, 42, 43, 44, 45, 46, 47, 48, 49, 50, 58, 59, 60, 61, 62, 63, 64, 65, 66, 67, 68, 69, 70, 71, 72, 73, 74, 75, 76, 77, 78, 79, 80, 81] (by decide +kernel) (by decide +kernel)
set_option maxRecDepth 20000 in
theorem gX5_lend_X5_allDraws : GoodIn wsX5_lend (wsV RX5 171 RX5 yX5_allDraws wsX5_allDraws) := goodIn_app (goodIn_of _ (by decide +kernel)) ggX5_lend_X5_allDraws
set_option maxRecDepth 20000 in
theorem ggX5_lend_X5_isAbove : GoodIn wsX5_lend wsX5_isAbove := goodIn_r _ [57] (by decide +kernel) (by decide +kernel)
set_option maxRecDepth 20000 in
theorem gX5_lend_X5_isAbove : GoodIn wsX5_lend (va_wsS RX5 186 yX5_isAbove wsX5_isAbove) := goodIn_app (goodIn_of _ (by decide +kernel)) ggX5_lend_X5_isAbove
theorem dX5_lend_0 : decode cX5_lend 0 = .ok (.aload_n 0, 1) := by decide +kernel
theorem dX5_lend_1 : decode cX5_lend 1 = .ok (.iload_n 1, 1) := by decide +kernel
theorem dX5_lend_2 : decode cX5_lend 2 = .ok (.invokevirtual 129, 3) := by decide +kernel
theorem dX5_lend_5 : decode cX5_lend 5 = .ok (.ifCond .eq 5, 3) := by decide +kernel
theorem dX5_lend_8 : decode cX5_lend 8 = .ok (.iconst (-1), 1) := by decide +kernel
theorem dX5_lend_9 : decode cX5_lend 9 = .ok (.ireturn, 1) := by decide +kernel
theorem dX5_lend_10 : decode cX5_lend 10 = .ok (.aload_n 0, 1) := by decide +kernel
theorem dX5_lend_11 : decode cX5_lend 11 = .ok (.getfield 13, 3) := by decide +kernel
theorem dX5_lend_14 : decode cX5_lend 14 = .ok (.iload_n 1, 1) := by decide +kernel
theorem dX5_lend_15 : decode cX5_lend 15 = .ok (.iaload, 1) := by decide +kernel
theorem dX5_lend_16 : decode cX5_lend 16 = .ok (.iconst 2, 1) := by decide +kernel
theorem dX5_lend_17 : decode cX5_lend 17 = .ok (.if_icmp .ge 6, 3) := by decide +kernel
theorem dX5_lend_20 : decode cX5_lend 20 = .ok (.bipush (-3), 2) := by decide +kernel
theorem dX5_lend_22 : decode cX5_lend 22 = .ok (.ireturn, 1) := by decide +kernel
theorem dX5_lend_23 : decode cX5_lend 23 = .ok (.aload_n 0, 1) := by decide +kernel
theorem dX5_lend_24 : decode cX5_lend 24 = .ok (.invokevirtual 181, 3) := by decide +kernel
theorem dX5_lend_27 : decode cX5_lend 27 = .ok (.lstore_n 2, 1) := by decide +kernel
theorem dX5_lend_28 : decode cX5_lend 28 = .ok (.aload_n 0, 1) := by decide +kernel
theorem dX5_lend_29 : decode cX5_lend 29 = .ok (.invokevirtual 171, 3) := by decide +kernel
theorem dX5_lend_32 : decode cX5_lend 32 = .ok (.lstore 4, 2) := by decide +kernel
theorem dX5_lend_34 : decode cX5_lend 34 = .ok (.bipush (-9), 2) := by decide +kernel
theorem dX5_lend_36 : decode cX5_lend 36 = .ok (.istore 6, 2) := by decide +kernel
theorem dX5_lend_38 : decode cX5_lend 38 = .ok (.aload_n 0, 1) := by decide +kernel
theorem dX5_lend_39 : decode cX5_lend 39 = .ok (.getfield 13, 3) := by decide +kernel
theorem dX5_lend_42 : decode cX5_lend 42 = .ok (.iload_n 1, 1) := by decide +kernel
theorem dX5_lend_43 : decode cX5_lend 43 = .ok (.dup2, 1) := by decide +kernel
theorem dX5_lend_44 : decode cX5_lend 44 = .ok (.iaload, 1) := by decide +kernel
theorem dX5_lend_45 : decode cX5_lend 45 = .ok (.iconst 1, 1) := by decide +kernel
theorem dX5_lend_46 : decode cX5_lend 46 = .ok (.isub, 1) := by decide +kernel
theorem dX5_lend_47 : decode cX5_lend 47 = .ok (.iastore, 1) := by decide +kernel
theorem dX5_lend_48 : decode cX5_lend 48 = .ok (.iconst 0, 1) := by decide +kernel
theorem dX5_lend_49 : decode cX5_lend 49 = .ok (.istore 7, 2) := by decide +kernel
theorem dX5_lend_51 : decode cX5_lend 51 = .ok (.iload 7, 2) := by decide +kernel
theorem dX5_lend_53 : decode cX5_lend 53 = .ok (.aload_n 0, 1) := by decide +kernel
theorem dX5_lend_54 : decode cX5_lend 54 = .ok (.getfield 53, 3) := by decide +kernel
theorem dX5_lend_57 : decode cX5_lend 57 = .ok (.if_icmp .ge 73, 3) := by decide +kernel
theorem dX5_lend_60 : decode cX5_lend 60 = .ok (.iload 7, 2) := by decide +kernel
theorem dX5_lend_62 : decode cX5_lend 62 = .ok (.iload_n 1, 1) := by decide +kernel
theorem dX5_lend_63 : decode cX5_lend 63 = .ok (.if_icmp .eq 61, 3) := by decide +kernel
theorem dX5_lend_66 : decode cX5_lend 66 = .ok (.aload_n 0, 1) := by decide +kernel
theorem dX5_lend_67 : decode cX5_lend 67 = .ok (.getfield 13, 3) := by decide +kernel
theorem dX5_lend_70 : decode cX5_lend 70 = .ok (.iload 7, 2) := by decide +kernel
theorem dX5_lend_72 : decode cX5_lend 72 = .ok (.dup2, 1) := by decide +kernel
theorem dX5_lend_73 : decode cX5_lend 73 = .ok (.iaload, 1) := by decide +kernel
theorem dX5_lend_74 : decode cX5_lend 74 = .ok (.iconst 1, 1) := by decide +kernel
theorem dX5_lend_75 : decode cX5_lend 75 = .ok (.iadd, 1) := by decide +kernel
theorem dX5_lend_76 : decode cX5_lend 76 = .ok (.iastore, 1) := by decide +kernel
theorem dX5_lend_77 : decode cX5_lend 77 = .ok (.aload_n 0, 1) := by decide +kernel
theorem dX5_lend_78 : decode cX5_lend 78 = .ok (.invokevirtual 181, 3) := by decide +kernel
theorem dX5_lend_81 : decode cX5_lend 81 = .ok (.lstore 8, 2) := by decide +kernel
theorem dX5_lend_83 : decode cX5_lend 83 = .ok (.aload_n 0, 1) := by decide +kernel
theorem dX5_lend_84 : decode cX5_lend 84 = .ok (.invokevirtual 171, 3) := by decide +kernel
theorem dX5_lend_87 : decode cX5_lend 87 = .ok (.lstore 10, 2) := by decide +kernel
theorem dX5_lend_89 : decode cX5_lend 89 = .ok (.aload_n 0, 1) := by decide +kernel
theorem dX5_lend_90 : decode cX5_lend 90 = .ok (.getfield 13, 3) := by decide +kernel
theorem dX5_lend_93 : decode cX5_lend 93 = .ok (.iload 7, 2) := by decide +kernel
theorem dX5_lend_95 : decode cX5_lend 95 = .ok (.dup2, 1) := by decide +kernel
theorem dX5_lend_96 : decode cX5_lend 96 = .ok (.iaload, 1) := by decide +kernel
theorem dX5_lend_97 : decode cX5_lend 97 = .ok (.iconst 1, 1) := by decide +kernel
theorem dX5_lend_98 : decode cX5_lend 98 = .ok (.isub, 1) := by decide +kernel
theorem dX5_lend_99 : decode cX5_lend 99 = .ok (.iastore, 1) := by decide +kernel
theorem dX5_lend_100 : decode cX5_lend 100 = .ok (.lload 8, 2) := by decide +kernel
theorem dX5_lend_102 : decode cX5_lend 102 = .ok (.lload 10, 2) := by decide +kernel
theorem dX5_lend_104 : decode cX5_lend 104 = .ok (.lload_n 2, 1) := by decide +kernel
theorem dX5_lend_105 : decode cX5_lend 105 = .ok (.lload 4, 2) := by decide +kernel
theorem dX5_lend_107 : decode cX5_lend 107 = .ok (.invokestatic 186, 3) := by decide +kernel
theorem dX5_lend_110 : decode cX5_lend 110 = .ok (.ifCond .eq 14, 3) := by decide +kernel
theorem dX5_lend_113 : decode cX5_lend 113 = .ok (.iload 7, 2) := by decide +kernel
theorem dX5_lend_115 : decode cX5_lend 115 = .ok (.istore 6, 2) := by decide +kernel
theorem dX5_lend_117 : decode cX5_lend 117 = .ok (.lload 8, 2) := by decide +kernel
theorem dX5_lend_119 : decode cX5_lend 119 = .ok (.lstore_n 2, 1) := by decide +kernel
theorem dX5_lend_120 : decode cX5_lend 120 = .ok (.lload 10, 2) := by decide +kernel
theorem dX5_lend_122 : decode cX5_lend 122 = .ok (.lstore 4, 2) := by decide +kernel
theorem dX5_lend_124 : decode cX5_lend 124 = .ok (.iinc 7 1, 3) := by decide +kernel
theorem dX5_lend_127 : decode cX5_lend 127 = .ok (.goto (-76), 3) := by decide +kernel
theorem dX5_lend_130 : decode cX5_lend 130 = .ok (.aload_n 0, 1) := by decide +kernel
theorem dX5_lend_131 : decode cX5_lend 131 = .ok (.getfield 13, 3) := by decide +kernel
theorem dX5_lend_134 : decode cX5_lend 134 = .ok (.iload_n 1, 1) := by decide +kernel
theorem dX5_lend_135 : decode cX5_lend 135 = .ok (.dup2, 1) := by decide +kernel
theorem dX5_lend_136 : decode cX5_lend 136 = .ok (.iaload, 1) := by decide +kernel
theorem dX5_lend_137 : decode cX5_lend 137 = .ok (.iconst 1, 1) := by decide +kernel
theorem dX5_lend_138 : decode cX5_lend 138 = .ok (.iadd, 1) := by decide +kernel
theorem dX5_lend_139 : decode cX5_lend 139 = .ok (.iastore, 1) := by decide +kernel
theorem dX5_lend_140 : decode cX5_lend 140 = .ok (.iload 6, 2) := by decide +kernel
theorem dX5_lend_142 : decode cX5_lend 142 = .ok (.ireturn, 1) := by decide +kernel
set_option maxRecDepth 20000 in
theorem ggX5_isLikely_X5_passingDraws : GoodIn wsX5_isLikely wsX5_passingDraws := goodIn_r _ [6, 7, 8, 9, 5, 10, 11, 12, 13, 14, 15, 16, 17, 18, 19, 20, 21, 22, 23, 24, 25, 26, 27, 28, 29, 30, 31, 32, 33, 34, 35, 36, 37, 38, 39, 40, 41, 42, 43, 44, 49, 50, 51, 52, 53, 54, 55, 56, 57, 58, 59, 60, 61, 62, 63, 64, 65, 66, 67, 68, 69, 70, 71, 72] (by decide +kernel) (by decide +kernel)
set_option maxRecDepth 20000 in
theorem gX5_isLikely_X5_passingDraws : GoodIn wsX5_isLikely (wsV RX5 181 RX5 yX5_passingDraws wsX5_passingDraws) := goodIn_app (goodIn_of _ (by decide +kernel)) ggX5_isLikely_X5_passingDraws
set_option maxRecDepth 20000 in
theorem ggX5_isLikely_X5_allDraws : GoodIn wsX5_isLikely wsX5_allDraws := goodIn_r _ [48, 7, 8, 9, 5, 10, 11, 24, 25, 26, 27, 28, 29, 30, 31, 32, 33, 34, 35, 36, 37, 38, 39, 40, 41, 42, 43, 44, 49, 50, 51, 52, 53, 54, 55, 56, 57, 58, 59, 60, 61, 62, 63, 64, 65, 66, 67, 68, 69, 70, 71, 72] (by decide +kernel) (by decide +kernel)
set_option maxRecDepth 20000 in
theorem gX5_isLikely_X5_allDraws : GoodIn wsX5_isLikely (wsV RX5 171 RX5 yX5_allDraws wsX5_allDraws) := goodIn_app (goodIn_of _ (by decide +kernel)) ggX5_isLikely_X5_allDraws
theorem dX5_isLikely_0 : decode cX5_isLikely 0 = .ok (.ldc2_w 102, 3) := by decide +kernel
theorem dX5_isLikely_3 : decode cX5_isLikely 3 = .ok (.aload_n 0, 1) := by decide +kernel
theorem dX5_isLikely_4 : decode cX5_isLikely 4 = .ok (.invokevirtual 181, 3) := by decide +kernel
theorem dX5_isLikely_7 : decode cX5_isLikely 7 = .ok (.lmul, 1) := by decide +kernel
theorem dX5_isLikely_8 : decode cX5_isLikely 8 = .ok (.aload_n 0, 1) := by decide +kernel
theorem dX5_isLikely_9 : decode cX5_isLikely 9 = .ok (.invokevirtual 171, 3) := by decide +kernel
theorem dX5_isLikely_12 : decode cX5_isLikely 12 = .ok (.lcmp, 1) := by decide +kernel
theorem dX5_isLikely_13 : decode cX5_isLikely 13 = .ok (.ifCond .lt 7, 3) := by decide +kernel
theorem dX5_isLikely_16 : decode cX5_isLikely 16 = .ok (.iconst 1, 1) := by decide +kernel
theorem dX5_isLikely_17 : decode cX5_isLikely 17 = .ok (.goto 4, 3) := by decide +kernel
theorem dX5_isLikely_20 : decode cX5_isLikely 20 = .ok (.iconst 0, 1) := by decide +kernel
theorem dX5_isLikely_21 : decode cX5_isLikely 21 = .ok (.ireturn, 1) := by decide +kernel
set_option maxRecDepth 20000 in
theorem ggX5_least_X5_in : GoodIn wsX5_least wsX5_in := goodIn_r _ [9] (by decide +kernel) (by decide +kernel)
set_option maxRecDepth 20000 in
theorem gX5_least_X5_in : GoodIn wsX5_least (va_wsS RX5 56 yX5_in wsX5_in) := goodIn_app (goodIn_of _ (by decide +kernel)) ggX5_least_X5_in
set_option maxRecDepth 20000 in
theorem ggX5_least_X5_isLikely : GoodIn wsX5_least wsX5_isLikely := goodIn_r _ [13, 14, 15, 16, 17, 8, 18, 19, 20, 21, 22, 1, 23, 24, 25, 26, 2, 27, 28, 29, 30, 31, 32, 33, 34, 35, 36, 37, 38, 39, 40, 41, 42, 43, 44, 5, 45, 46, 47, 48, 49, 50, 51, 52, 53, 54, 55, 56, 57, 58, 59, 60, 61, 62, 63, 64, 65, 66, 67, 68, 69, 70, 71, 72, 73, 74, 75, 76, 77, 78, 79, 80, 81] (by decide +kernel) (by decide +kernel)
set_option maxRecDepth 20000 in
theorem gX5_least_X5_isLikely : GoodIn wsX5_least (wsV RX5 190 RX5 yX5_isLikely wsX5_isLikely) := goodIn_app (goodIn_of _ (by decide +kernel)) ggX5_least_X5_isLikely
theorem dX5_least_0 : decode cX5_least 0 = .ok (.iload_n 1, 1) := by decide +kernel
theorem dX5_least_1 : decode cX5_least 1 = .ok (.i2l, 1) := by decide +kernel
theorem dX5_least_2 : decode cX5_least 2 = .ok (.lconst 0, 1) := by decide +kernel
theorem dX5_least_3 : decode cX5_least 3 = .ok (.lconst 1, 1) := by decide +kernel
theorem dX5_least_4 : decode cX5_least 4 = .ok (.invokestatic 56, 3) := by decide +kernel
theorem dX5_least_7 : decode cX5_least 7 = .ok (.ifCond .ne 6, 3) := by decide +kernel
theorem dX5_least_10 : decode cX5_least 10 = .ok (.bipush (-2), 2) := by decide +kernel
theorem dX5_least_12 : decode cX5_least 12 = .ok (.ireturn, 1) := by decide +kernel
theorem dX5_least_13 : decode cX5_least 13 = .ok (.aload_n 0, 1) := by decide +kernel
theorem dX5_least_14 : decode cX5_least 14 = .ok (.getfield 53, 3) := by decide +kernel
theorem dX5_least_17 : decode cX5_least 17 = .ok (.ifCond .ne 6, 3) := by decide +kernel
theorem dX5_least_20 : decode cX5_least 20 = .ok (.bipush (-3), 2) := by decide +kernel
theorem dX5_least_22 : decode cX5_least 22 = .ok (.ireturn, 1) := by decide +kernel
theorem dX5_least_23 : decode cX5_least 23 = .ok (.aload_n 0, 1) := by decide +kernel
theorem dX5_least_24 : decode cX5_least 24 = .ok (.invokevirtual 190, 3) := by decide +kernel
theorem dX5_least_27 : decode cX5_least 27 = .ok (.ifCond .eq 14, 3) := by decide +kernel
theorem dX5_least_30 : decode cX5_least 30 = .ok (.iload_n 1, 1) := by decide +kernel
theorem dX5_least_31 : decode cX5_least 31 = .ok (.ifCond .ne 7, 3) := by decide +kernel
theorem dX5_least_34 : decode cX5_least 34 = .ok (.iconst 0, 1) := by decide +kernel
theorem dX5_least_35 : decode cX5_least 35 = .ok (.goto 5, 3) := by decide +kernel
theorem dX5_least_38 : decode cX5_least 38 = .ok (.bipush (-9), 2) := by decide +kernel
theorem dX5_least_40 : decode cX5_least 40 = .ok (.ireturn, 1) := by decide +kernel
theorem dX5_least_41 : decode cX5_least 41 = .ok (.aload_n 0, 1) := by decide +kernel
theorem dX5_least_42 : decode cX5_least 42 = .ok (.getfield 117, 3) := by decide +kernel
theorem dX5_least_45 : decode cX5_least 45 = .ok (.istore_n 2, 1) := by decide +kernel
theorem dX5_least_46 : decode cX5_least 46 = .ok (.bipush (-9), 2) := by decide +kernel
theorem dX5_least_48 : decode cX5_least 48 = .ok (.istore_n 3, 1) := by decide +kernel
theorem dX5_least_49 : decode cX5_least 49 = .ok (.bipush (-9), 2) := by decide +kernel
theorem dX5_least_51 : decode cX5_least 51 = .ok (.istore 4, 2) := by decide +kernel
theorem dX5_least_53 : decode cX5_least 53 = .ok (.iconst 0, 1) := by decide +kernel
theorem dX5_least_54 : decode cX5_least 54 = .ok (.istore 5, 2) := by decide +kernel
theorem dX5_least_56 : decode cX5_least 56 = .ok (.iload 5, 2) := by decide +kernel
theorem dX5_least_58 : decode cX5_least 58 = .ok (.aload_n 0, 1) := by decide +kernel
theorem dX5_least_59 : decode cX5_least 59 = .ok (.getfield 53, 3) := by decide +kernel
theorem dX5_least_62 : decode cX5_least 62 = .ok (.if_icmp .ge 65, 3) := by decide +kernel
theorem dX5_least_65 : decode cX5_least 65 = .ok (.aload_n 0, 1) := by decide +kernel
theorem dX5_least_66 : decode cX5_least 66 = .ok (.iload_n 2, 1) := by decide +kernel
theorem dX5_least_67 : decode cX5_least 67 = .ok (.iconst 1, 1) := by decide +kernel
theorem dX5_least_68 : decode cX5_least 68 = .ok (.iload 5, 2) := by decide +kernel
theorem dX5_least_70 : decode cX5_least 70 = .ok (.ishl, 1) := by decide +kernel
theorem dX5_least_71 : decode cX5_least 71 = .ok (.ior, 1) := by decide +kernel
theorem dX5_least_72 : decode cX5_least 72 = .ok (.putfield 117, 3) := by decide +kernel
theorem dX5_least_75 : decode cX5_least 75 = .ok (.aload_n 0, 1) := by decide +kernel
theorem dX5_least_76 : decode cX5_least 76 = .ok (.getfield 16, 3) := by decide +kernel
theorem dX5_least_79 : decode cX5_least 79 = .ok (.iload 5, 2) := by decide +kernel
theorem dX5_least_81 : decode cX5_least 81 = .ok (.iaload, 1) := by decide +kernel
theorem dX5_least_82 : decode cX5_least 82 = .ok (.aload_n 0, 1) := by decide +kernel
theorem dX5_least_83 : decode cX5_least 83 = .ok (.getfield 114, 3) := by decide +kernel
theorem dX5_least_86 : decode cX5_least 86 = .ok (.aload_n 0, 1) := by decide +kernel
theorem dX5_least_87 : decode cX5_least 87 = .ok (.getfield 13, 3) := by decide +kernel
theorem dX5_least_90 : decode cX5_least 90 = .ok (.iload 5, 2) := by decide +kernel
theorem dX5_least_92 : decode cX5_least 92 = .ok (.iaload, 1) := by decide +kernel
theorem dX5_least_93 : decode cX5_least 93 = .ok (.imul, 1) := by decide +kernel
theorem dX5_least_94 : decode cX5_least 94 = .ok (.iadd, 1) := by decide +kernel
theorem dX5_least_95 : decode cX5_least 95 = .ok (.istore 6, 2) := by decide +kernel
theorem dX5_least_97 : decode cX5_least 97 = .ok (.aload_n 0, 1) := by decide +kernel
theorem dX5_least_98 : decode cX5_least 98 = .ok (.invokevirtual 190, 3) := by decide +kernel
theorem dX5_least_101 : decode cX5_least 101 = .ok (.ifCond .eq 20, 3) := by decide +kernel
theorem dX5_least_104 : decode cX5_least 104 = .ok (.iload_n 3, 1) := by decide +kernel
theorem dX5_least_105 : decode cX5_least 105 = .ok (.ifCond .lt 9, 3) := by decide +kernel
theorem dX5_least_108 : decode cX5_least 108 = .ok (.iload 6, 2) := by decide +kernel
theorem dX5_least_110 : decode cX5_least 110 = .ok (.iload_n 3, 1) := by decide +kernel
theorem dX5_least_111 : decode cX5_least 111 = .ok (.if_icmp .ge 10, 3) := by decide +kernel
theorem dX5_least_114 : decode cX5_least 114 = .ok (.iload 6, 2) := by decide +kernel
theorem dX5_least_116 : decode cX5_least 116 = .ok (.istore_n 3, 1) := by decide +kernel
theorem dX5_least_117 : decode cX5_least 117 = .ok (.iload 5, 2) := by decide +kernel
theorem dX5_least_119 : decode cX5_least 119 = .ok (.istore 4, 2) := by decide +kernel
theorem dX5_least_121 : decode cX5_least 121 = .ok (.iinc 5 1, 3) := by decide +kernel
theorem dX5_least_124 : decode cX5_least 124 = .ok (.goto (-68), 3) := by decide +kernel
theorem dX5_least_127 : decode cX5_least 127 = .ok (.aload_n 0, 1) := by decide +kernel
theorem dX5_least_128 : decode cX5_least 128 = .ok (.iload_n 2, 1) := by decide +kernel
theorem dX5_least_129 : decode cX5_least 129 = .ok (.putfield 117, 3) := by decide +kernel
theorem dX5_least_132 : decode cX5_least 132 = .ok (.iload_n 1, 1) := by decide +kernel
theorem dX5_least_133 : decode cX5_least 133 = .ok (.ifCond .ne 7, 3) := by decide +kernel
theorem dX5_least_136 : decode cX5_least 136 = .ok (.iload_n 3, 1) := by decide +kernel
theorem dX5_least_137 : decode cX5_least 137 = .ok (.goto 5, 3) := by decide +kernel
theorem dX5_least_140 : decode cX5_least 140 = .ok (.iload 4, 2) := by decide +kernel
theorem dX5_least_142 : decode cX5_least 142 = .ok (.ireturn, 1) := by decide +kernel
set_option maxRecDepth 20000 in
theorem ggX5_reading_X5_everybody : GoodIn wsX5_reading wsX5_everybody := goodIn_r _ [8, 1, 12, 13, 14, 15, 16, 17, 18, 19, 20, 21, 22, 23, 24, 25, 26, 27, 28, 29, 30, 31, 32, 33, 34, 35] (by decide +kernel) (by decide +kernel)
set_option maxRecDepth 20000 in
theorem gX5_reading_X5_everybody : GoodIn wsX5_reading (wsV RX5 145 RX5 yX5_everybody wsX5_everybody) := goodIn_app (goodIn_of _ (by decide +kernel)) ggX5_reading_X5_everybody
set_option maxRecDepth 20000 in
theorem ggX5_reading_X5_in : GoodIn wsX5_reading wsX5_in := goodIn_r _ [11] (by decide +kernel) (by decide +kernel)
set_option maxRecDepth 20000 in
theorem gX5_reading_X5_in : GoodIn wsX5_reading (va_wsS RX5 56 yX5_in wsX5_in) := goodIn_app (goodIn_of _ (by decide +kernel)) ggX5_reading_X5_in
theorem dX5_reading_0 : decode cX5_reading 0 = .ok (.aload_n 0, 1) := by decide +kernel
theorem dX5_reading_1 : decode cX5_reading 1 = .ok (.getfield 53, 3) := by decide +kernel
theorem dX5_reading_4 : decode cX5_reading 4 = .ok (.ifCond .ne 6, 3) := by decide +kernel
theorem dX5_reading_7 : decode cX5_reading 7 = .ok (.bipush (-3), 2) := by decide +kernel
theorem dX5_reading_9 : decode cX5_reading 9 = .ok (.ireturn, 1) := by decide +kernel
theorem dX5_reading_10 : decode cX5_reading 10 = .ok (.iload_n 1, 1) := by decide +kernel
theorem dX5_reading_11 : decode cX5_reading 11 = .ok (.i2l, 1) := by decide +kernel
theorem dX5_reading_12 : decode cX5_reading 12 = .ok (.lconst 0, 1) := by decide +kernel
theorem dX5_reading_13 : decode cX5_reading 13 = .ok (.aload_n 0, 1) := by decide +kernel
theorem dX5_reading_14 : decode cX5_reading 14 = .ok (.invokevirtual 145, 3) := by decide +kernel
theorem dX5_reading_17 : decode cX5_reading 17 = .ok (.i2l, 1) := by decide +kernel
theorem dX5_reading_18 : decode cX5_reading 18 = .ok (.invokestatic 56, 3) := by decide +kernel
theorem dX5_reading_21 : decode cX5_reading 21 = .ok (.ifCond .ne 6, 3) := by decide +kernel
theorem dX5_reading_24 : decode cX5_reading 24 = .ok (.bipush (-2), 2) := by decide +kernel
theorem dX5_reading_26 : decode cX5_reading 26 = .ok (.ireturn, 1) := by decide +kernel
theorem dX5_reading_27 : decode cX5_reading 27 = .ok (.aload_n 0, 1) := by decide +kernel
theorem dX5_reading_28 : decode cX5_reading 28 = .ok (.getfield 120, 3) := by decide +kernel
theorem dX5_reading_31 : decode cX5_reading 31 = .ok (.bipush 8, 2) := by decide +kernel
theorem dX5_reading_33 : decode cX5_reading 33 = .ok (.if_icmp .ne 6, 3) := by decide +kernel
theorem dX5_reading_36 : decode cX5_reading 36 = .ok (.bipush (-4), 2) := by decide +kernel
theorem dX5_reading_38 : decode cX5_reading 38 = .ok (.ireturn, 1) := by decide +kernel
theorem dX5_reading_39 : decode cX5_reading 39 = .ok (.aload_n 0, 1) := by decide +kernel
theorem dX5_reading_40 : decode cX5_reading 40 = .ok (.getfield 28, 3) := by decide +kernel
theorem dX5_reading_43 : decode cX5_reading 43 = .ok (.aload_n 0, 1) := by decide +kernel
theorem dX5_reading_44 : decode cX5_reading 44 = .ok (.getfield 120, 3) := by decide +kernel
theorem dX5_reading_47 : decode cX5_reading 47 = .ok (.iload_n 1, 1) := by decide +kernel
theorem dX5_reading_48 : decode cX5_reading 48 = .ok (.iastore, 1) := by decide +kernel
theorem dX5_reading_49 : decode cX5_reading 49 = .ok (.aload_n 0, 1) := by decide +kernel
theorem dX5_reading_50 : decode cX5_reading 50 = .ok (.dup, 1) := by decide +kernel
theorem dX5_reading_51 : decode cX5_reading 51 = .ok (.getfield 120, 3) := by decide +kernel
theorem dX5_reading_54 : decode cX5_reading 54 = .ok (.iconst 1, 1) := by decide +kernel
theorem dX5_reading_55 : decode cX5_reading 55 = .ok (.iadd, 1) := by decide +kernel
theorem dX5_reading_56 : decode cX5_reading 56 = .ok (.putfield 120, 3) := by decide +kernel
theorem dX5_reading_59 : decode cX5_reading 59 = .ok (.aload_n 0, 1) := by decide +kernel
theorem dX5_reading_60 : decode cX5_reading 60 = .ok (.getfield 120, 3) := by decide +kernel
theorem dX5_reading_63 : decode cX5_reading 63 = .ok (.iconst 1, 1) := by decide +kernel
theorem dX5_reading_64 : decode cX5_reading 64 = .ok (.isub, 1) := by decide +kernel
theorem dX5_reading_65 : decode cX5_reading 65 = .ok (.ireturn, 1) := by decide +kernel
set_option maxRecDepth 20000 in
theorem ggX5_back_X5_in : GoodIn wsX5_back wsX5_in := goodIn_r _ [5] (by decide +kernel) (by decide +kernel)
set_option maxRecDepth 20000 in
theorem gX5_back_X5_in : GoodIn wsX5_back (va_wsS RX5 56 yX5_in wsX5_in) := goodIn_app (goodIn_of _ (by decide +kernel)) ggX5_back_X5_in
theorem dX5_back_0 : decode cX5_back 0 = .ok (.iload_n 1, 1) := by decide +kernel
theorem dX5_back_1 : decode cX5_back 1 = .ok (.i2l, 1) := by decide +kernel
theorem dX5_back_2 : decode cX5_back 2 = .ok (.lconst 0, 1) := by decide +kernel
theorem dX5_back_3 : decode cX5_back 3 = .ok (.aload_n 0, 1) := by decide +kernel
theorem dX5_back_4 : decode cX5_back 4 = .ok (.getfield 120, 3) := by decide +kernel
theorem dX5_back_7 : decode cX5_back 7 = .ok (.i2l, 1) := by decide +kernel
theorem dX5_back_8 : decode cX5_back 8 = .ok (.invokestatic 56, 3) := by decide +kernel
theorem dX5_back_11 : decode cX5_back 11 = .ok (.ifCond .ne 6, 3) := by decide +kernel
theorem dX5_back_14 : decode cX5_back 14 = .ok (.bipush (-2), 2) := by decide +kernel
theorem dX5_back_16 : decode cX5_back 16 = .ok (.ireturn, 1) := by decide +kernel
theorem dX5_back_17 : decode cX5_back 17 = .ok (.aload_n 0, 1) := by decide +kernel
theorem dX5_back_18 : decode cX5_back 18 = .ok (.dup, 1) := by decide +kernel
theorem dX5_back_19 : decode cX5_back 19 = .ok (.getfield 120, 3) := by decide +kernel
theorem dX5_back_22 : decode cX5_back 22 = .ok (.iload_n 1, 1) := by decide +kernel
theorem dX5_back_23 : decode cX5_back 23 = .ok (.isub, 1) := by decide +kernel
theorem dX5_back_24 : decode cX5_back 24 = .ok (.putfield 120, 3) := by decide +kernel
theorem dX5_back_27 : decode cX5_back 27 = .ok (.aload_n 0, 1) := by decide +kernel
theorem dX5_back_28 : decode cX5_back 28 = .ok (.getfield 120, 3) := by decide +kernel
theorem dX5_back_31 : decode cX5_back 31 = .ok (.ireturn, 1) := by decide +kernel
set_option maxRecDepth 20000 in
theorem ggX5_canBe_X5_drawsOf : GoodIn wsX5_canBe wsX5_drawsOf := goodIn_r _ [7, 8, 9, 10, 6, 11, 12, 13, 14, 15, 16, 17, 18, 19, 20, 21, 22, 23, 24, 25, 26, 27, 28, 29, 30, 31, 32, 33, 34, 35, 36, 37, 38, 39, 40, 41, 42, 43, 44, 45, 46, 47, 48, 49, 50, 51, 52, 53, 54, 55, 56, 57, 58, 59, 60] (by decide +kernel) (by decide +kernel)
set_option maxRecDepth 20000 in
theorem gX5_canBe_X5_drawsOf : GoodIn wsX5_canBe (wsV RX5 178 RX5 yX5_drawsOf wsX5_drawsOf) := goodIn_app (goodIn_of _ (by decide +kernel)) ggX5_canBe_X5_drawsOf
theorem dX5_canBe_0 : decode cX5_canBe 0 = .ok (.iconst 1, 1) := by decide +kernel
theorem dX5_canBe_1 : decode cX5_canBe 1 = .ok (.istore_n 1, 1) := by decide +kernel
theorem dX5_canBe_2 : decode cX5_canBe 2 = .ok (.iconst 0, 1) := by decide +kernel
theorem dX5_canBe_3 : decode cX5_canBe 3 = .ok (.istore_n 2, 1) := by decide +kernel
theorem dX5_canBe_4 : decode cX5_canBe 4 = .ok (.iload_n 2, 1) := by decide +kernel
theorem dX5_canBe_5 : decode cX5_canBe 5 = .ok (.aload_n 0, 1) := by decide +kernel
theorem dX5_canBe_6 : decode cX5_canBe 6 = .ok (.getfield 120, 3) := by decide +kernel
theorem dX5_canBe_9 : decode cX5_canBe 9 = .ok (.if_icmp .ge 34, 3) := by decide +kernel
theorem dX5_canBe_12 : decode cX5_canBe 12 = .ok (.iload_n 1, 1) := by decide +kernel
theorem dX5_canBe_13 : decode cX5_canBe 13 = .ok (.ifCond .eq 22, 3) := by decide +kernel
theorem dX5_canBe_16 : decode cX5_canBe 16 = .ok (.aload_n 0, 1) := by decide +kernel
theorem dX5_canBe_17 : decode cX5_canBe 17 = .ok (.aload_n 0, 1) := by decide +kernel
theorem dX5_canBe_18 : decode cX5_canBe 18 = .ok (.getfield 28, 3) := by decide +kernel
theorem dX5_canBe_21 : decode cX5_canBe 21 = .ok (.iload_n 2, 1) := by decide +kernel
theorem dX5_canBe_22 : decode cX5_canBe 22 = .ok (.iaload, 1) := by decide +kernel
theorem dX5_canBe_23 : decode cX5_canBe 23 = .ok (.invokevirtual 178, 3) := by decide +kernel
theorem dX5_canBe_26 : decode cX5_canBe 26 = .ok (.lconst 0, 1) := by decide +kernel
theorem dX5_canBe_27 : decode cX5_canBe 27 = .ok (.lcmp, 1) := by decide +kernel
theorem dX5_canBe_28 : decode cX5_canBe 28 = .ok (.ifCond .le 7, 3) := by decide +kernel
theorem dX5_canBe_31 : decode cX5_canBe 31 = .ok (.iconst 1, 1) := by decide +kernel
theorem dX5_canBe_32 : decode cX5_canBe 32 = .ok (.goto 4, 3) := by decide +kernel
theorem dX5_canBe_35 : decode cX5_canBe 35 = .ok (.iconst 0, 1) := by decide +kernel
theorem dX5_canBe_36 : decode cX5_canBe 36 = .ok (.istore_n 1, 1) := by decide +kernel
theorem dX5_canBe_37 : decode cX5_canBe 37 = .ok (.iinc 2 1, 3) := by decide +kernel
theorem dX5_canBe_40 : decode cX5_canBe 40 = .ok (.goto (-36), 3) := by decide +kernel
theorem dX5_canBe_43 : decode cX5_canBe 43 = .ok (.iload_n 1, 1) := by decide +kernel
theorem dX5_canBe_44 : decode cX5_canBe 44 = .ok (.ireturn, 1) := by decide +kernel
set_option maxRecDepth 20000 in
theorem ggX5_tickets_X5_noCitizen : GoodIn wsX5_tickets wsX5_noCitizen := goodIn_r _ [6, 7, 8, 9, 5, 10, 48, 49, 50, 51, 52, 53, 54, 55, 56, 57, 58, 59, 60, 61, 62, 63, 64, 65, 66, 67, 68, 69, 70, 71] (by decide +kernel) (by decide +kernel)
set_option maxRecDepth 20000 in
theorem gX5_tickets_X5_noCitizen : GoodIn wsX5_tickets (wsV RX5 129 RX5 yX5_noCitizen wsX5_noCitizen) := goodIn_app (goodIn_of _ (by decide +kernel)) ggX5_tickets_X5_noCitizen
set_option maxRecDepth 20000 in
theorem ggX5_tickets_X5_canBe : GoodIn wsX5_tickets wsX5_canBe := goodIn_r _ [14, 15, 16, 17, 18, 19, 5, 20, 21, 22, 23, 24, 7, 25, 26, 27, 28, 29, 30, 31, 32, 33, 34, 35, 1, 36, 37, 38, 39, 40, 41, 42, 43, 44, 45, 46, 47, 48, 49, 50, 51, 52, 53, 54, 55, 56, 57, 58, 59, 60, 61, 62, 63, 64, 65, 66, 67, 68, 69, 70, 71] (by decide +kernel) (by decide +kernel)
set_option maxRecDepth 20000 in
theorem gX5_tickets_X5_canBe : GoodIn wsX5_tickets (wsV RX5 194 RX5 yX5_canBe wsX5_canBe) := goodIn_app (goodIn_of _ (by decide +kernel)) ggX5_tickets_X5_canBe
theorem dX5_tickets_0 : decode cX5_tickets 0 = .ok (.aload_n 0, 1) := by decide +kernel
theorem dX5_tickets_1 : decode cX5_tickets 1 = .ok (.iload_n 1, 1) := by decide +kernel
theorem dX5_tickets_2 : decode cX5_tickets 2 = .ok (.invokevirtual 129, 3) := by decide +kernel
theorem dX5_tickets_5 : decode cX5_tickets 5 = .ok (.ifCond .eq 5, 3) := by decide +kernel
theorem dX5_tickets_8 : decode cX5_tickets 8 = .ok (.iconst (-1), 1) := by decide +kernel
theorem dX5_tickets_9 : decode cX5_tickets 9 = .ok (.ireturn, 1) := by decide +kernel
theorem dX5_tickets_10 : decode cX5_tickets 10 = .ok (.aload_n 0, 1) := by decide +kernel
theorem dX5_tickets_11 : decode cX5_tickets 11 = .ok (.getfield 13, 3) := by decide +kernel
theorem dX5_tickets_14 : decode cX5_tickets 14 = .ok (.iload_n 1, 1) := by decide +kernel
theorem dX5_tickets_15 : decode cX5_tickets 15 = .ok (.iaload, 1) := by decide +kernel
theorem dX5_tickets_16 : decode cX5_tickets 16 = .ok (.istore_n 2, 1) := by decide +kernel
theorem dX5_tickets_17 : decode cX5_tickets 17 = .ok (.iconst 0, 1) := by decide +kernel
theorem dX5_tickets_18 : decode cX5_tickets 18 = .ok (.istore_n 3, 1) := by decide +kernel
theorem dX5_tickets_19 : decode cX5_tickets 19 = .ok (.iconst 1, 1) := by decide +kernel
theorem dX5_tickets_20 : decode cX5_tickets 20 = .ok (.istore 4, 2) := by decide +kernel
theorem dX5_tickets_22 : decode cX5_tickets 22 = .ok (.iload 4, 2) := by decide +kernel
theorem dX5_tickets_24 : decode cX5_tickets 24 = .ok (.bipush 10, 2) := by decide +kernel
theorem dX5_tickets_26 : decode cX5_tickets 26 = .ok (.if_icmp .ge 35, 3) := by decide +kernel
theorem dX5_tickets_29 : decode cX5_tickets 29 = .ok (.aload_n 0, 1) := by decide +kernel
theorem dX5_tickets_30 : decode cX5_tickets 30 = .ok (.getfield 13, 3) := by decide +kernel
theorem dX5_tickets_33 : decode cX5_tickets 33 = .ok (.iload_n 1, 1) := by decide +kernel
theorem dX5_tickets_34 : decode cX5_tickets 34 = .ok (.iload 4, 2) := by decide +kernel
theorem dX5_tickets_36 : decode cX5_tickets 36 = .ok (.iastore, 1) := by decide +kernel
theorem dX5_tickets_37 : decode cX5_tickets 37 = .ok (.iload_n 3, 1) := by decide +kernel
theorem dX5_tickets_38 : decode cX5_tickets 38 = .ok (.aload_n 0, 1) := by decide +kernel
theorem dX5_tickets_39 : decode cX5_tickets 39 = .ok (.invokevirtual 194, 3) := by decide +kernel
theorem dX5_tickets_42 : decode cX5_tickets 42 = .ok (.ifCond .eq 10, 3) := by decide +kernel
theorem dX5_tickets_45 : decode cX5_tickets 45 = .ok (.iconst 1, 1) := by decide +kernel
theorem dX5_tickets_46 : decode cX5_tickets 46 = .ok (.iload 4, 2) := by decide +kernel
theorem dX5_tickets_48 : decode cX5_tickets 48 = .ok (.ishl, 1) := by decide +kernel
theorem dX5_tickets_49 : decode cX5_tickets 49 = .ok (.goto 4, 3) := by decide +kernel
theorem dX5_tickets_52 : decode cX5_tickets 52 = .ok (.iconst 0, 1) := by decide +kernel
theorem dX5_tickets_53 : decode cX5_tickets 53 = .ok (.ior, 1) := by decide +kernel
theorem dX5_tickets_54 : decode cX5_tickets 54 = .ok (.istore_n 3, 1) := by decide +kernel
theorem dX5_tickets_55 : decode cX5_tickets 55 = .ok (.iinc 4 1, 3) := by decide +kernel
theorem dX5_tickets_58 : decode cX5_tickets 58 = .ok (.goto (-36), 3) := by decide +kernel
theorem dX5_tickets_61 : decode cX5_tickets 61 = .ok (.aload_n 0, 1) := by decide +kernel
theorem dX5_tickets_62 : decode cX5_tickets 62 = .ok (.getfield 13, 3) := by decide +kernel
theorem dX5_tickets_65 : decode cX5_tickets 65 = .ok (.iload_n 1, 1) := by decide +kernel
theorem dX5_tickets_66 : decode cX5_tickets 66 = .ok (.iload_n 2, 1) := by decide +kernel
theorem dX5_tickets_67 : decode cX5_tickets 67 = .ok (.iastore, 1) := by decide +kernel
theorem dX5_tickets_68 : decode cX5_tickets 68 = .ok (.iload_n 3, 1) := by decide +kernel
theorem dX5_tickets_69 : decode cX5_tickets 69 = .ok (.ireturn, 1) := by decide +kernel
set_option maxRecDepth 20000 in
theorem ggX5_kinds_X5_noCitizen : GoodIn wsX5_kinds wsX5_noCitizen := goodIn_r _ [6, 7, 8, 9, 5, 10, 48, 49, 50, 51, 52, 53, 54, 55, 56, 57, 58, 59, 60, 61, 62, 63, 64, 65, 66, 67, 68, 69, 70, 71] (by decide +kernel) (by decide +kernel)
set_option maxRecDepth 20000 in
theorem gX5_kinds_X5_noCitizen : GoodIn wsX5_kinds (wsV RX5 129 RX5 yX5_noCitizen wsX5_noCitizen) := goodIn_app (goodIn_of _ (by decide +kernel)) ggX5_kinds_X5_noCitizen
set_option maxRecDepth 20000 in
theorem ggX5_kinds_X5_canBe : GoodIn wsX5_kinds wsX5_canBe := goodIn_r _ [14, 15, 16, 17, 18, 19, 5, 20, 21, 22, 23, 24, 7, 25, 26, 27, 28, 29, 30, 31, 32, 33, 34, 35, 36, 1, 37, 38, 39, 40, 41, 42, 43, 44, 45, 46, 47, 48, 49, 50, 51, 52, 53, 54, 55, 56, 57, 58, 59, 60, 61, 62, 63, 64, 65, 66, 67, 68, 69, 70, 71] (by decide +kernel) (by decide +kernel)
set_option maxRecDepth 20000 in
theorem gX5_kinds_X5_canBe : GoodIn wsX5_kinds (wsV RX5 194 RX5 yX5_canBe wsX5_canBe) := goodIn_app (goodIn_of _ (by decide +kernel)) ggX5_kinds_X5_canBe
theorem dX5_kinds_0 : decode cX5_kinds 0 = .ok (.aload_n 0, 1) := by decide +kernel
theorem dX5_kinds_1 : decode cX5_kinds 1 = .ok (.iload_n 1, 1) := by decide +kernel
theorem dX5_kinds_2 : decode cX5_kinds 2 = .ok (.invokevirtual 129, 3) := by decide +kernel
theorem dX5_kinds_5 : decode cX5_kinds 5 = .ok (.ifCond .eq 5, 3) := by decide +kernel
theorem dX5_kinds_8 : decode cX5_kinds 8 = .ok (.iconst (-1), 1) := by decide +kernel
theorem dX5_kinds_9 : decode cX5_kinds 9 = .ok (.ireturn, 1) := by decide +kernel
theorem dX5_kinds_10 : decode cX5_kinds 10 = .ok (.aload_n 0, 1) := by decide +kernel
theorem dX5_kinds_11 : decode cX5_kinds 11 = .ok (.getfield 7, 3) := by decide +kernel
theorem dX5_kinds_14 : decode cX5_kinds 14 = .ok (.iload_n 1, 1) := by decide +kernel
theorem dX5_kinds_15 : decode cX5_kinds 15 = .ok (.iaload, 1) := by decide +kernel
theorem dX5_kinds_16 : decode cX5_kinds 16 = .ok (.istore_n 2, 1) := by decide +kernel
theorem dX5_kinds_17 : decode cX5_kinds 17 = .ok (.iconst 0, 1) := by decide +kernel
theorem dX5_kinds_18 : decode cX5_kinds 18 = .ok (.istore_n 3, 1) := by decide +kernel
theorem dX5_kinds_19 : decode cX5_kinds 19 = .ok (.iconst 0, 1) := by decide +kernel
theorem dX5_kinds_20 : decode cX5_kinds 20 = .ok (.istore 4, 2) := by decide +kernel
theorem dX5_kinds_22 : decode cX5_kinds 22 = .ok (.iload 4, 2) := by decide +kernel
theorem dX5_kinds_24 : decode cX5_kinds 24 = .ok (.iconst 3, 1) := by decide +kernel
theorem dX5_kinds_25 : decode cX5_kinds 25 = .ok (.if_icmp .ge 35, 3) := by decide +kernel
theorem dX5_kinds_28 : decode cX5_kinds 28 = .ok (.aload_n 0, 1) := by decide +kernel
theorem dX5_kinds_29 : decode cX5_kinds 29 = .ok (.getfield 7, 3) := by decide +kernel
theorem dX5_kinds_32 : decode cX5_kinds 32 = .ok (.iload_n 1, 1) := by decide +kernel
theorem dX5_kinds_33 : decode cX5_kinds 33 = .ok (.iload 4, 2) := by decide +kernel
theorem dX5_kinds_35 : decode cX5_kinds 35 = .ok (.iastore, 1) := by decide +kernel
theorem dX5_kinds_36 : decode cX5_kinds 36 = .ok (.iload_n 3, 1) := by decide +kernel
theorem dX5_kinds_37 : decode cX5_kinds 37 = .ok (.aload_n 0, 1) := by decide +kernel
theorem dX5_kinds_38 : decode cX5_kinds 38 = .ok (.invokevirtual 194, 3) := by decide +kernel
theorem dX5_kinds_41 : decode cX5_kinds 41 = .ok (.ifCond .eq 10, 3) := by decide +kernel
theorem dX5_kinds_44 : decode cX5_kinds 44 = .ok (.iconst 1, 1) := by decide +kernel
theorem dX5_kinds_45 : decode cX5_kinds 45 = .ok (.iload 4, 2) := by decide +kernel
theorem dX5_kinds_47 : decode cX5_kinds 47 = .ok (.ishl, 1) := by decide +kernel
theorem dX5_kinds_48 : decode cX5_kinds 48 = .ok (.goto 4, 3) := by decide +kernel
theorem dX5_kinds_51 : decode cX5_kinds 51 = .ok (.iconst 0, 1) := by decide +kernel
theorem dX5_kinds_52 : decode cX5_kinds 52 = .ok (.ior, 1) := by decide +kernel
theorem dX5_kinds_53 : decode cX5_kinds 53 = .ok (.istore_n 3, 1) := by decide +kernel
theorem dX5_kinds_54 : decode cX5_kinds 54 = .ok (.iinc 4 1, 3) := by decide +kernel
theorem dX5_kinds_57 : decode cX5_kinds 57 = .ok (.goto (-35), 3) := by decide +kernel
theorem dX5_kinds_60 : decode cX5_kinds 60 = .ok (.aload_n 0, 1) := by decide +kernel
theorem dX5_kinds_61 : decode cX5_kinds 61 = .ok (.getfield 7, 3) := by decide +kernel
theorem dX5_kinds_64 : decode cX5_kinds 64 = .ok (.iload_n 1, 1) := by decide +kernel
theorem dX5_kinds_65 : decode cX5_kinds 65 = .ok (.iload_n 2, 1) := by decide +kernel
theorem dX5_kinds_66 : decode cX5_kinds 66 = .ok (.iastore, 1) := by decide +kernel
theorem dX5_kinds_67 : decode cX5_kinds 67 = .ok (.iload_n 3, 1) := by decide +kernel
theorem dX5_kinds_68 : decode cX5_kinds 68 = .ok (.ireturn, 1) := by decide +kernel
set_option maxRecDepth 20000 in
theorem ggX5_counts_X5_canBe : GoodIn wsX5_counts wsX5_canBe := goodIn_r _ [7, 8, 9, 10, 11, 12, 6, 13, 14, 15, 16, 17, 1, 18, 19, 20, 21, 22, 23, 24, 25, 26, 27, 28, 29, 30, 31, 32, 33, 34, 2, 35, 36, 37, 38, 39, 40, 41, 42, 43, 44, 45, 46, 47, 48, 49, 50, 51, 52, 53, 54, 55, 56, 57, 58, 59, 60, 61, 62, 63, 64] (by decide +kernel) (by decide +kernel)
set_option maxRecDepth 20000 in
theorem gX5_counts_X5_canBe : GoodIn wsX5_counts (wsV RX5 194 RX5 yX5_canBe wsX5_canBe) := goodIn_app (goodIn_of _ (by decide +kernel)) ggX5_counts_X5_canBe
theorem dX5_counts_0 : decode cX5_counts 0 = .ok (.aload_n 0, 1) := by decide +kernel
theorem dX5_counts_1 : decode cX5_counts 1 = .ok (.getfield 53, 3) := by decide +kernel
theorem dX5_counts_4 : decode cX5_counts 4 = .ok (.ifCond .ne 6, 3) := by decide +kernel
theorem dX5_counts_7 : decode cX5_counts 7 = .ok (.bipush (-3), 2) := by decide +kernel
theorem dX5_counts_9 : decode cX5_counts 9 = .ok (.ireturn, 1) := by decide +kernel
theorem dX5_counts_10 : decode cX5_counts 10 = .ok (.aload_n 0, 1) := by decide +kernel
theorem dX5_counts_11 : decode cX5_counts 11 = .ok (.getfield 111, 3) := by decide +kernel
theorem dX5_counts_14 : decode cX5_counts 14 = .ok (.istore_n 1, 1) := by decide +kernel
theorem dX5_counts_15 : decode cX5_counts 15 = .ok (.iconst 0, 1) := by decide +kernel
theorem dX5_counts_16 : decode cX5_counts 16 = .ok (.istore_n 2, 1) := by decide +kernel
theorem dX5_counts_17 : decode cX5_counts 17 = .ok (.iconst 0, 1) := by decide +kernel
theorem dX5_counts_18 : decode cX5_counts 18 = .ok (.istore_n 3, 1) := by decide +kernel
theorem dX5_counts_19 : decode cX5_counts 19 = .ok (.iload_n 3, 1) := by decide +kernel
theorem dX5_counts_20 : decode cX5_counts 20 = .ok (.bipush 7, 2) := by decide +kernel
theorem dX5_counts_22 : decode cX5_counts 22 = .ok (.if_icmp .ge 31, 3) := by decide +kernel
theorem dX5_counts_25 : decode cX5_counts 25 = .ok (.aload_n 0, 1) := by decide +kernel
theorem dX5_counts_26 : decode cX5_counts 26 = .ok (.iload_n 3, 1) := by decide +kernel
theorem dX5_counts_27 : decode cX5_counts 27 = .ok (.putfield 111, 3) := by decide +kernel
theorem dX5_counts_30 : decode cX5_counts 30 = .ok (.iload_n 2, 1) := by decide +kernel
theorem dX5_counts_31 : decode cX5_counts 31 = .ok (.aload_n 0, 1) := by decide +kernel
theorem dX5_counts_32 : decode cX5_counts 32 = .ok (.invokevirtual 194, 3) := by decide +kernel
theorem dX5_counts_35 : decode cX5_counts 35 = .ok (.ifCond .eq 9, 3) := by decide +kernel
theorem dX5_counts_38 : decode cX5_counts 38 = .ok (.iconst 1, 1) := by decide +kernel
theorem dX5_counts_39 : decode cX5_counts 39 = .ok (.iload_n 3, 1) := by decide +kernel
theorem dX5_counts_40 : decode cX5_counts 40 = .ok (.ishl, 1) := by decide +kernel
theorem dX5_counts_41 : decode cX5_counts 41 = .ok (.goto 4, 3) := by decide +kernel
theorem dX5_counts_44 : decode cX5_counts 44 = .ok (.iconst 0, 1) := by decide +kernel
theorem dX5_counts_45 : decode cX5_counts 45 = .ok (.ior, 1) := by decide +kernel
theorem dX5_counts_46 : decode cX5_counts 46 = .ok (.istore_n 2, 1) := by decide +kernel
theorem dX5_counts_47 : decode cX5_counts 47 = .ok (.iinc 3 1, 3) := by decide +kernel
theorem dX5_counts_50 : decode cX5_counts 50 = .ok (.goto (-31), 3) := by decide +kernel
theorem dX5_counts_53 : decode cX5_counts 53 = .ok (.aload_n 0, 1) := by decide +kernel
theorem dX5_counts_54 : decode cX5_counts 54 = .ok (.iload_n 1, 1) := by decide +kernel
theorem dX5_counts_55 : decode cX5_counts 55 = .ok (.putfield 111, 3) := by decide +kernel
theorem dX5_counts_58 : decode cX5_counts 58 = .ok (.iload_n 2, 1) := by decide +kernel
theorem dX5_counts_59 : decode cX5_counts 59 = .ok (.ireturn, 1) := by decide +kernel
set_option maxRecDepth 20000 in
theorem ggX5_noSheet_X5_in : GoodIn wsX5_noSheet wsX5_in := goodIn_r _ [5] (by decide +kernel) (by decide +kernel)
set_option maxRecDepth 20000 in
theorem gX5_noSheet_X5_in : GoodIn wsX5_noSheet (va_wsS RX5 56 yX5_in wsX5_in) := goodIn_app (goodIn_of _ (by decide +kernel)) ggX5_noSheet_X5_in
theorem dX5_noSheet_0 : decode cX5_noSheet 0 = .ok (.iload_n 0, 1) := by decide +kernel
theorem dX5_noSheet_1 : decode cX5_noSheet 1 = .ok (.i2l, 1) := by decide +kernel
theorem dX5_noSheet_2 : decode cX5_noSheet 2 = .ok (.lconst 0, 1) := by decide +kernel
theorem dX5_noSheet_3 : decode cX5_noSheet 3 = .ok (.ldc2_w 197, 3) := by decide +kernel
theorem dX5_noSheet_6 : decode cX5_noSheet 6 = .ok (.invokestatic 56, 3) := by decide +kernel
theorem dX5_noSheet_9 : decode cX5_noSheet 9 = .ok (.ifCond .ne 7, 3) := by decide +kernel
theorem dX5_noSheet_12 : decode cX5_noSheet 12 = .ok (.iconst 1, 1) := by decide +kernel
theorem dX5_noSheet_13 : decode cX5_noSheet 13 = .ok (.goto 4, 3) := by decide +kernel
theorem dX5_noSheet_16 : decode cX5_noSheet 16 = .ok (.iconst 0, 1) := by decide +kernel
theorem dX5_noSheet_17 : decode cX5_noSheet 17 = .ok (.ireturn, 1) := by decide +kernel
set_option maxRecDepth 20000 in
theorem ggX5_sheet_X5_noSheet : GoodIn wsX5_sheet wsX5_noSheet := goodIn_r _ [8, 9, 10, 11, 7, 12] (by decide +kernel) (by decide +kernel)
set_option maxRecDepth 20000 in
theorem gX5_sheet_X5_noSheet : GoodIn wsX5_sheet (va_wsS RX5 95 yX5_noSheet wsX5_noSheet) := goodIn_app (goodIn_of _ (by decide +kernel)) ggX5_sheet_X5_noSheet
set_option maxRecDepth 20000 in
theorem ggX5_sheet_X5_refused : GoodIn wsX5_sheet wsX5_refused := goodIn_r _ [16, 17, 22, 23, 24, 25, 26, 27, 28, 29, 30, 31, 32, 33, 34, 35, 36, 37, 38, 39, 40, 41, 42, 43, 44, 45] (by decide +kernel) (by decide +kernel)
set_option maxRecDepth 20000 in
theorem gX5_sheet_X5_refused : GoodIn wsX5_sheet (wsV RX5 99 RX5 yX5_refused wsX5_refused) := goodIn_app (goodIn_of _ (by decide +kernel)) ggX5_sheet_X5_refused
set_option maxRecDepth 20000 in
theorem ggX5_sheet_X5_in : GoodIn wsX5_sheet wsX5_in := goodIn_r _ [12] (by decide +kernel) (by decide +kernel)
set_option maxRecDepth 20000 in
theorem gX5_sheet_X5_in : GoodIn wsX5_sheet (va_wsS RX5 56 yX5_in wsX5_in) := goodIn_app (goodIn_of _ (by decide +kernel)) ggX5_sheet_X5_in
set_option maxRecDepth 20000 in
theorem ggX5_sheet_X5_failed : GoodIn wsX5_sheet wsX5_failed := goodIn_r _ [21, 17, 22, 23, 24, 25, 26, 27, 28, 29, 30, 31, 32, 33, 34, 35, 36, 37, 38, 39, 40, 41, 42, 43, 44, 45] (by decide +kernel) (by decide +kernel)
set_option maxRecDepth 20000 in
theorem gX5_sheet_X5_failed : GoodIn wsX5_sheet (wsV RX5 87 RX5 yX5_failed wsX5_failed) := goodIn_app (goodIn_of _ (by decide +kernel)) ggX5_sheet_X5_failed
theorem dX5_sheet_0 : decode cX5_sheet 0 = .ok (.iload_n 1, 1) := by decide +kernel
theorem dX5_sheet_1 : decode cX5_sheet 1 = .ok (.invokestatic 95, 3) := by decide +kernel
theorem dX5_sheet_4 : decode cX5_sheet 4 = .ok (.ifCond .eq 9, 3) := by decide +kernel
theorem dX5_sheet_7 : decode cX5_sheet 7 = .ok (.aload_n 0, 1) := by decide +kernel
theorem dX5_sheet_8 : decode cX5_sheet 8 = .ok (.iconst (-1), 1) := by decide +kernel
theorem dX5_sheet_9 : decode cX5_sheet 9 = .ok (.invokevirtual 99, 3) := by decide +kernel
theorem dX5_sheet_12 : decode cX5_sheet 12 = .ok (.ireturn, 1) := by decide +kernel
theorem dX5_sheet_13 : decode cX5_sheet 13 = .ok (.iload_n 2, 1) := by decide +kernel
theorem dX5_sheet_14 : decode cX5_sheet 14 = .ok (.i2l, 1) := by decide +kernel
theorem dX5_sheet_15 : decode cX5_sheet 15 = .ok (.lconst 0, 1) := by decide +kernel
theorem dX5_sheet_16 : decode cX5_sheet 16 = .ok (.ldc2_w 102, 3) := by decide +kernel
theorem dX5_sheet_19 : decode cX5_sheet 19 = .ok (.invokestatic 56, 3) := by decide +kernel
theorem dX5_sheet_22 : decode cX5_sheet 22 = .ok (.ifCond .eq 9, 3) := by decide +kernel
theorem dX5_sheet_25 : decode cX5_sheet 25 = .ok (.iload_n 3, 1) := by decide +kernel
theorem dX5_sheet_26 : decode cX5_sheet 26 = .ok (.bipush 60, 2) := by decide +kernel
theorem dX5_sheet_28 : decode cX5_sheet 28 = .ok (.if_icmp .le 10, 3) := by decide +kernel
theorem dX5_sheet_31 : decode cX5_sheet 31 = .ok (.aload_n 0, 1) := by decide +kernel
theorem dX5_sheet_32 : decode cX5_sheet 32 = .ok (.bipush (-2), 2) := by decide +kernel
theorem dX5_sheet_34 : decode cX5_sheet 34 = .ok (.invokevirtual 99, 3) := by decide +kernel
theorem dX5_sheet_37 : decode cX5_sheet 37 = .ok (.ireturn, 1) := by decide +kernel
theorem dX5_sheet_38 : decode cX5_sheet 38 = .ok (.iload_n 3, 1) := by decide +kernel
theorem dX5_sheet_39 : decode cX5_sheet 39 = .ok (.ifCond .ge 9, 3) := by decide +kernel
theorem dX5_sheet_42 : decode cX5_sheet 42 = .ok (.aload_n 0, 1) := by decide +kernel
theorem dX5_sheet_43 : decode cX5_sheet 43 = .ok (.iconst 4, 1) := by decide +kernel
theorem dX5_sheet_44 : decode cX5_sheet 44 = .ok (.invokevirtual 87, 3) := by decide +kernel
theorem dX5_sheet_47 : decode cX5_sheet 47 = .ok (.ireturn, 1) := by decide +kernel
theorem dX5_sheet_48 : decode cX5_sheet 48 = .ok (.aload_n 0, 1) := by decide +kernel
theorem dX5_sheet_49 : decode cX5_sheet 49 = .ok (.getfield 31, 3) := by decide +kernel
theorem dX5_sheet_52 : decode cX5_sheet 52 = .ok (.iload_n 1, 1) := by decide +kernel
theorem dX5_sheet_53 : decode cX5_sheet 53 = .ok (.iload_n 3, 1) := by decide +kernel
theorem dX5_sheet_54 : decode cX5_sheet 54 = .ok (.iastore, 1) := by decide +kernel
theorem dX5_sheet_55 : decode cX5_sheet 55 = .ok (.aload_n 0, 1) := by decide +kernel
theorem dX5_sheet_56 : decode cX5_sheet 56 = .ok (.getfield 34, 3) := by decide +kernel
theorem dX5_sheet_59 : decode cX5_sheet 59 = .ok (.iload_n 1, 1) := by decide +kernel
theorem dX5_sheet_60 : decode cX5_sheet 60 = .ok (.iload_n 2, 1) := by decide +kernel
theorem dX5_sheet_61 : decode cX5_sheet 61 = .ok (.iastore, 1) := by decide +kernel
theorem dX5_sheet_62 : decode cX5_sheet 62 = .ok (.iconst 0, 1) := by decide +kernel
theorem dX5_sheet_63 : decode cX5_sheet 63 = .ok (.istore 4, 2) := by decide +kernel
theorem dX5_sheet_65 : decode cX5_sheet 65 = .ok (.iload 4, 2) := by decide +kernel
theorem dX5_sheet_67 : decode cX5_sheet 67 = .ok (.iload_n 3, 1) := by decide +kernel
theorem dX5_sheet_68 : decode cX5_sheet 68 = .ok (.if_icmp .ge 22, 3) := by decide +kernel
theorem dX5_sheet_71 : decode cX5_sheet 71 = .ok (.aload_n 0, 1) := by decide +kernel
theorem dX5_sheet_72 : decode cX5_sheet 72 = .ok (.getfield 37, 3) := by decide +kernel
theorem dX5_sheet_75 : decode cX5_sheet 75 = .ok (.bipush 60, 2) := by decide +kernel
theorem dX5_sheet_77 : decode cX5_sheet 77 = .ok (.iload_n 1, 1) := by decide +kernel
theorem dX5_sheet_78 : decode cX5_sheet 78 = .ok (.imul, 1) := by decide +kernel
theorem dX5_sheet_79 : decode cX5_sheet 79 = .ok (.iload 4, 2) := by decide +kernel
theorem dX5_sheet_81 : decode cX5_sheet 81 = .ok (.iadd, 1) := by decide +kernel
theorem dX5_sheet_82 : decode cX5_sheet 82 = .ok (.iconst 0, 1) := by decide +kernel
theorem dX5_sheet_83 : decode cX5_sheet 83 = .ok (.iastore, 1) := by decide +kernel
theorem dX5_sheet_84 : decode cX5_sheet 84 = .ok (.iinc 4 1, 3) := by decide +kernel
theorem dX5_sheet_87 : decode cX5_sheet 87 = .ok (.goto (-22), 3) := by decide +kernel
theorem dX5_sheet_90 : decode cX5_sheet 90 = .ok (.aload_n 0, 1) := by decide +kernel
theorem dX5_sheet_91 : decode cX5_sheet 91 = .ok (.iconst 1, 1) := by decide +kernel
theorem dX5_sheet_92 : decode cX5_sheet 92 = .ok (.invokevirtual 99, 3) := by decide +kernel
theorem dX5_sheet_95 : decode cX5_sheet 95 = .ok (.ireturn, 1) := by decide +kernel
set_option maxRecDepth 20000 in
theorem ggX5_lose_X5_noSheet : GoodIn wsX5_lose wsX5_noSheet := goodIn_r _ [5, 6, 7, 8, 4, 9] (by decide +kernel) (by decide +kernel)
set_option maxRecDepth 20000 in
theorem gX5_lose_X5_noSheet : GoodIn wsX5_lose (va_wsS RX5 95 yX5_noSheet wsX5_noSheet) := goodIn_app (goodIn_of _ (by decide +kernel)) ggX5_lose_X5_noSheet
theorem dX5_lose_0 : decode cX5_lose 0 = .ok (.iload_n 1, 1) := by decide +kernel
theorem dX5_lose_1 : decode cX5_lose 1 = .ok (.invokestatic 95, 3) := by decide +kernel
theorem dX5_lose_4 : decode cX5_lose 4 = .ok (.ifCond .eq 5, 3) := by decide +kernel
theorem dX5_lose_7 : decode cX5_lose 7 = .ok (.iconst (-1), 1) := by decide +kernel
theorem dX5_lose_8 : decode cX5_lose 8 = .ok (.ireturn, 1) := by decide +kernel
theorem dX5_lose_9 : decode cX5_lose 9 = .ok (.aload_n 0, 1) := by decide +kernel
theorem dX5_lose_10 : decode cX5_lose 10 = .ok (.getfield 31, 3) := by decide +kernel
theorem dX5_lose_13 : decode cX5_lose 13 = .ok (.iload_n 1, 1) := by decide +kernel
theorem dX5_lose_14 : decode cX5_lose 14 = .ok (.iaload, 1) := by decide +kernel
theorem dX5_lose_15 : decode cX5_lose 15 = .ok (.ifCond .ge 7, 3) := by decide +kernel
theorem dX5_lose_18 : decode cX5_lose 18 = .ok (.iconst 0, 1) := by decide +kernel
theorem dX5_lose_19 : decode cX5_lose 19 = .ok (.goto 4, 3) := by decide +kernel
theorem dX5_lose_22 : decode cX5_lose 22 = .ok (.iconst 1, 1) := by decide +kernel
theorem dX5_lose_23 : decode cX5_lose 23 = .ok (.istore_n 2, 1) := by decide +kernel
theorem dX5_lose_24 : decode cX5_lose 24 = .ok (.aload_n 0, 1) := by decide +kernel
theorem dX5_lose_25 : decode cX5_lose 25 = .ok (.getfield 31, 3) := by decide +kernel
theorem dX5_lose_28 : decode cX5_lose 28 = .ok (.iload_n 1, 1) := by decide +kernel
theorem dX5_lose_29 : decode cX5_lose 29 = .ok (.iconst (-1), 1) := by decide +kernel
theorem dX5_lose_30 : decode cX5_lose 30 = .ok (.iastore, 1) := by decide +kernel
theorem dX5_lose_31 : decode cX5_lose 31 = .ok (.iload_n 2, 1) := by decide +kernel
theorem dX5_lose_32 : decode cX5_lose 32 = .ok (.ireturn, 1) := by decide +kernel
set_option maxRecDepth 20000 in
theorem ggX5_noCell_X5_in : GoodIn wsX5_noCell wsX5_in := goodIn_r _ [5] (by decide +kernel) (by decide +kernel)
set_option maxRecDepth 20000 in
theorem gX5_noCell_X5_in : GoodIn wsX5_noCell (va_wsS RX5 56 yX5_in wsX5_in) := goodIn_app (goodIn_of _ (by decide +kernel)) ggX5_noCell_X5_in
theorem dX5_noCell_0 : decode cX5_noCell 0 = .ok (.aload_n 0, 1) := by decide +kernel
theorem dX5_noCell_1 : decode cX5_noCell 1 = .ok (.getfield 31, 3) := by decide +kernel
theorem dX5_noCell_4 : decode cX5_noCell 4 = .ok (.iload_n 1, 1) := by decide +kernel
theorem dX5_noCell_5 : decode cX5_noCell 5 = .ok (.iaload, 1) := by decide +kernel
theorem dX5_noCell_6 : decode cX5_noCell 6 = .ok (.ifCond .ge 7, 3) := by decide +kernel
theorem dX5_noCell_9 : decode cX5_noCell 9 = .ok (.iconst 1, 1) := by decide +kernel
theorem dX5_noCell_10 : decode cX5_noCell 10 = .ok (.goto 26, 3) := by decide +kernel
theorem dX5_noCell_13 : decode cX5_noCell 13 = .ok (.iload_n 2, 1) := by decide +kernel
theorem dX5_noCell_14 : decode cX5_noCell 14 = .ok (.i2l, 1) := by decide +kernel
theorem dX5_noCell_15 : decode cX5_noCell 15 = .ok (.lconst 0, 1) := by decide +kernel
theorem dX5_noCell_16 : decode cX5_noCell 16 = .ok (.aload_n 0, 1) := by decide +kernel
theorem dX5_noCell_17 : decode cX5_noCell 17 = .ok (.getfield 31, 3) := by decide +kernel
theorem dX5_noCell_20 : decode cX5_noCell 20 = .ok (.iload_n 1, 1) := by decide +kernel
theorem dX5_noCell_21 : decode cX5_noCell 21 = .ok (.iaload, 1) := by decide +kernel
theorem dX5_noCell_22 : decode cX5_noCell 22 = .ok (.i2l, 1) := by decide +kernel
theorem dX5_noCell_23 : decode cX5_noCell 23 = .ok (.lconst 1, 1) := by decide +kernel
theorem dX5_noCell_24 : decode cX5_noCell 24 = .ok (.lsub, 1) := by decide +kernel
theorem dX5_noCell_25 : decode cX5_noCell 25 = .ok (.invokestatic 56, 3) := by decide +kernel
theorem dX5_noCell_28 : decode cX5_noCell 28 = .ok (.ifCond .eq 7, 3) := by decide +kernel
theorem dX5_noCell_31 : decode cX5_noCell 31 = .ok (.iconst 0, 1) := by decide +kernel
theorem dX5_noCell_32 : decode cX5_noCell 32 = .ok (.goto 4, 3) := by decide +kernel
theorem dX5_noCell_35 : decode cX5_noCell 35 = .ok (.iconst 3, 1) := by decide +kernel
theorem dX5_noCell_36 : decode cX5_noCell 36 = .ok (.ireturn, 1) := by decide +kernel
set_option maxRecDepth 20000 in
theorem ggX5_put_X5_noSheet : GoodIn wsX5_put wsX5_noSheet := goodIn_r _ [6, 7, 8, 9, 5, 10] (by decide +kernel) (by decide +kernel)
set_option maxRecDepth 20000 in
theorem gX5_put_X5_noSheet : GoodIn wsX5_put (va_wsS RX5 95 yX5_noSheet wsX5_noSheet) := goodIn_app (goodIn_of _ (by decide +kernel)) ggX5_put_X5_noSheet
set_option maxRecDepth 20000 in
theorem ggX5_put_X5_refused : GoodIn wsX5_put wsX5_refused := goodIn_r _ [14, 15, 25, 26, 27, 28, 29, 30, 31, 32, 33, 34, 35, 36, 37, 38, 39, 40, 41, 42, 43, 44, 45, 46, 47, 48] (by decide +kernel) (by decide +kernel)
set_option maxRecDepth 20000 in
theorem gX5_put_X5_refused : GoodIn wsX5_put (wsV RX5 99 RX5 yX5_refused wsX5_refused) := goodIn_app (goodIn_of _ (by decide +kernel)) ggX5_put_X5_refused
set_option maxRecDepth 20000 in
theorem ggX5_put_X5_noCell : GoodIn wsX5_put wsX5_noCell := goodIn_r _ [19, 20, 8, 9, 5, 10, 25, 26, 27, 28, 29, 30, 31, 32, 33, 34, 35, 36, 37, 38, 39, 40, 41, 42, 43, 44, 45, 46, 47, 48] (by decide +kernel) (by decide +kernel)
set_option maxRecDepth 20000 in
theorem gX5_put_X5_noCell : GoodIn wsX5_put (wsV RX5 199 RX5 yX5_noCell wsX5_noCell) := goodIn_app (goodIn_of _ (by decide +kernel)) ggX5_put_X5_noCell
set_option maxRecDepth 20000 in
theorem ggX5_put_X5_failed : GoodIn wsX5_put wsX5_failed := goodIn_r _ [24, 15, 25, 26, 27, 28, 29, 30, 31, 32, 33, 34, 35, 36, 37, 38, 39, 40, 41, 42, 43, 44, 45, 46, 47, 48] (by decide +kernel) (by decide +kernel)
set_option maxRecDepth 20000 in
theorem gX5_put_X5_failed : GoodIn wsX5_put (wsV RX5 87 RX5 yX5_failed wsX5_failed) := goodIn_app (goodIn_of _ (by decide +kernel)) ggX5_put_X5_failed
theorem dX5_put_0 : decode cX5_put 0 = .ok (.iload_n 1, 1) := by decide +kernel
theorem dX5_put_1 : decode cX5_put 1 = .ok (.invokestatic 95, 3) := by decide +kernel
theorem dX5_put_4 : decode cX5_put 4 = .ok (.ifCond .eq 9, 3) := by decide +kernel
theorem dX5_put_7 : decode cX5_put 7 = .ok (.aload_n 0, 1) := by decide +kernel
theorem dX5_put_8 : decode cX5_put 8 = .ok (.iconst (-1), 1) := by decide +kernel
theorem dX5_put_9 : decode cX5_put 9 = .ok (.invokevirtual 99, 3) := by decide +kernel
theorem dX5_put_12 : decode cX5_put 12 = .ok (.ireturn, 1) := by decide +kernel
theorem dX5_put_13 : decode cX5_put 13 = .ok (.aload_n 0, 1) := by decide +kernel
theorem dX5_put_14 : decode cX5_put 14 = .ok (.iload_n 1, 1) := by decide +kernel
theorem dX5_put_15 : decode cX5_put 15 = .ok (.iload_n 2, 1) := by decide +kernel
theorem dX5_put_16 : decode cX5_put 16 = .ok (.invokevirtual 199, 3) := by decide +kernel
theorem dX5_put_19 : decode cX5_put 19 = .ok (.ifCond .le 14, 3) := by decide +kernel
theorem dX5_put_22 : decode cX5_put 22 = .ok (.aload_n 0, 1) := by decide +kernel
theorem dX5_put_23 : decode cX5_put 23 = .ok (.aload_n 0, 1) := by decide +kernel
theorem dX5_put_24 : decode cX5_put 24 = .ok (.iload_n 1, 1) := by decide +kernel
theorem dX5_put_25 : decode cX5_put 25 = .ok (.iload_n 2, 1) := by decide +kernel
theorem dX5_put_26 : decode cX5_put 26 = .ok (.invokevirtual 199, 3) := by decide +kernel
theorem dX5_put_29 : decode cX5_put 29 = .ok (.invokevirtual 87, 3) := by decide +kernel
theorem dX5_put_32 : decode cX5_put 32 = .ok (.ireturn, 1) := by decide +kernel
theorem dX5_put_33 : decode cX5_put 33 = .ok (.aload_n 0, 1) := by decide +kernel
theorem dX5_put_34 : decode cX5_put 34 = .ok (.getfield 37, 3) := by decide +kernel
theorem dX5_put_37 : decode cX5_put 37 = .ok (.bipush 60, 2) := by decide +kernel
theorem dX5_put_39 : decode cX5_put 39 = .ok (.iload_n 1, 1) := by decide +kernel
theorem dX5_put_40 : decode cX5_put 40 = .ok (.imul, 1) := by decide +kernel
theorem dX5_put_41 : decode cX5_put 41 = .ok (.iload_n 2, 1) := by decide +kernel
theorem dX5_put_42 : decode cX5_put 42 = .ok (.iadd, 1) := by decide +kernel
theorem dX5_put_43 : decode cX5_put 43 = .ok (.aload_n 0, 1) := by decide +kernel
theorem dX5_put_44 : decode cX5_put 44 = .ok (.getfield 34, 3) := by decide +kernel
theorem dX5_put_47 : decode cX5_put 47 = .ok (.iload_n 1, 1) := by decide +kernel
theorem dX5_put_48 : decode cX5_put 48 = .ok (.iaload, 1) := by decide +kernel
theorem dX5_put_49 : decode cX5_put 49 = .ok (.ifCond .ne 8, 3) := by decide +kernel
theorem dX5_put_52 : decode cX5_put 52 = .ok (.iload_n 3, 1) := by decide +kernel
theorem dX5_put_53 : decode cX5_put 53 = .ok (.i2b, 1) := by decide +kernel
theorem dX5_put_54 : decode cX5_put 54 = .ok (.goto 19, 3) := by decide +kernel
theorem dX5_put_57 : decode cX5_put 57 = .ok (.aload_n 0, 1) := by decide +kernel
theorem dX5_put_58 : decode cX5_put 58 = .ok (.getfield 34, 3) := by decide +kernel
theorem dX5_put_61 : decode cX5_put 61 = .ok (.iload_n 1, 1) := by decide +kernel
theorem dX5_put_62 : decode cX5_put 62 = .ok (.iaload, 1) := by decide +kernel
theorem dX5_put_63 : decode cX5_put 63 = .ok (.iconst 1, 1) := by decide +kernel
theorem dX5_put_64 : decode cX5_put 64 = .ok (.if_icmp .ne 8, 3) := by decide +kernel
theorem dX5_put_67 : decode cX5_put 67 = .ok (.iload_n 3, 1) := by decide +kernel
theorem dX5_put_68 : decode cX5_put 68 = .ok (.i2s, 1) := by decide +kernel
theorem dX5_put_69 : decode cX5_put 69 = .ok (.goto 4, 3) := by decide +kernel
theorem dX5_put_72 : decode cX5_put 72 = .ok (.iload_n 3, 1) := by decide +kernel
theorem dX5_put_73 : decode cX5_put 73 = .ok (.iastore, 1) := by decide +kernel
theorem dX5_put_74 : decode cX5_put 74 = .ok (.aload_n 0, 1) := by decide +kernel
theorem dX5_put_75 : decode cX5_put 75 = .ok (.iconst 1, 1) := by decide +kernel
theorem dX5_put_76 : decode cX5_put 76 = .ok (.invokevirtual 99, 3) := by decide +kernel
theorem dX5_put_79 : decode cX5_put 79 = .ok (.ireturn, 1) := by decide +kernel
set_option maxRecDepth 20000 in
theorem ggX5_cell_X5_noSheet : GoodIn wsX5_cell wsX5_noSheet := goodIn_r _ [9, 10, 11, 12, 8, 13] (by decide +kernel) (by decide +kernel)
set_option maxRecDepth 20000 in
theorem gX5_cell_X5_noSheet : GoodIn wsX5_cell (va_wsS RX5 95 yX5_noSheet wsX5_noSheet) := goodIn_app (goodIn_of _ (by decide +kernel)) ggX5_cell_X5_noSheet
set_option maxRecDepth 20000 in
theorem ggX5_cell_X5_in : GoodIn wsX5_cell wsX5_in := goodIn_r _ [13] (by decide +kernel) (by decide +kernel)
set_option maxRecDepth 20000 in
theorem gX5_cell_X5_in : GoodIn wsX5_cell (va_wsS RX5 56 yX5_in wsX5_in) := goodIn_app (goodIn_of _ (by decide +kernel)) ggX5_cell_X5_in
set_option maxRecDepth 20000 in
theorem ggX5_cell_X5_lost : GoodIn wsX5_cell wsX5_lost := goodIn_r _ [16, 17] (by decide +kernel) (by decide +kernel)
set_option maxRecDepth 20000 in
theorem gX5_cell_X5_lost : GoodIn wsX5_cell (va_wsS RX5 49 yX5_lost wsX5_lost) := goodIn_app (goodIn_of _ (by decide +kernel)) ggX5_cell_X5_lost
set_option maxRecDepth 20000 in
theorem ggX5_cell_X5_failedLong : GoodIn wsX5_cell wsX5_failedLong := goodIn_r _ [21, 1, 14, 15, 8, 16, 17, 26, 27, 28, 29, 30, 31, 32, 33, 34, 35, 36, 37, 38, 39, 40, 41, 42, 43, 44, 45, 46, 47, 48, 49] (by decide +kernel) (by decide +kernel)
set_option maxRecDepth 20000 in
theorem gX5_cell_X5_failedLong : GoodIn wsX5_cell (wsV RX5 202 RX5 yX5_failedLong wsX5_failedLong) := goodIn_app (goodIn_of _ (by decide +kernel)) ggX5_cell_X5_failedLong
set_option maxRecDepth 20000 in
theorem ggX5_cell_X5_noCell : GoodIn wsX5_cell wsX5_noCell := goodIn_r _ [25, 3, 11, 12, 8, 13, 26, 27, 28, 29, 30, 31, 32, 33, 34, 35, 36, 37, 38, 39, 40, 41, 42, 43, 44, 45, 46, 47, 48, 49] (by decide +kernel) (by decide +kernel)
set_option maxRecDepth 20000 in
theorem gX5_cell_X5_noCell : GoodIn wsX5_cell (wsV RX5 199 RX5 yX5_noCell wsX5_noCell) := goodIn_app (goodIn_of _ (by decide +kernel)) ggX5_cell_X5_noCell
theorem dX5_cell_0 : decode cX5_cell 0 = .ok (.aload_n 0, 1) := by decide +kernel
theorem dX5_cell_1 : decode cX5_cell 1 = .ok (.iconst 0, 1) := by decide +kernel
theorem dX5_cell_2 : decode cX5_cell 2 = .ok (.putfield 45, 3) := by decide +kernel
theorem dX5_cell_5 : decode cX5_cell 5 = .ok (.iload_n 1, 1) := by decide +kernel
theorem dX5_cell_6 : decode cX5_cell 6 = .ok (.invokestatic 95, 3) := by decide +kernel
theorem dX5_cell_9 : decode cX5_cell 9 = .ok (.ifCond .ne 15, 3) := by decide +kernel
theorem dX5_cell_12 : decode cX5_cell 12 = .ok (.iload_n 3, 1) := by decide +kernel
theorem dX5_cell_13 : decode cX5_cell 13 = .ok (.i2l, 1) := by decide +kernel
theorem dX5_cell_14 : decode cX5_cell 14 = .ok (.lconst 0, 1) := by decide +kernel
theorem dX5_cell_15 : decode cX5_cell 15 = .ok (.ldc2_w 102, 3) := by decide +kernel
theorem dX5_cell_18 : decode cX5_cell 18 = .ok (.invokestatic 56, 3) := by decide +kernel
theorem dX5_cell_21 : decode cX5_cell 21 = .ok (.ifCond .ne 7, 3) := by decide +kernel
theorem dX5_cell_24 : decode cX5_cell 24 = .ok (.invokestatic 49, 3) := by decide +kernel
theorem dX5_cell_27 : decode cX5_cell 27 = .ok (.lreturn, 1) := by decide +kernel
theorem dX5_cell_28 : decode cX5_cell 28 = .ok (.aload_n 0, 1) := by decide +kernel
theorem dX5_cell_29 : decode cX5_cell 29 = .ok (.getfield 31, 3) := by decide +kernel
theorem dX5_cell_32 : decode cX5_cell 32 = .ok (.iload_n 1, 1) := by decide +kernel
theorem dX5_cell_33 : decode cX5_cell 33 = .ok (.iaload, 1) := by decide +kernel
theorem dX5_cell_34 : decode cX5_cell 34 = .ok (.ifCond .lt 19, 3) := by decide +kernel
theorem dX5_cell_37 : decode cX5_cell 37 = .ok (.aload_n 0, 1) := by decide +kernel
theorem dX5_cell_38 : decode cX5_cell 38 = .ok (.getfield 34, 3) := by decide +kernel
theorem dX5_cell_41 : decode cX5_cell 41 = .ok (.iload_n 1, 1) := by decide +kernel
theorem dX5_cell_42 : decode cX5_cell 42 = .ok (.iaload, 1) := by decide +kernel
theorem dX5_cell_43 : decode cX5_cell 43 = .ok (.iload_n 3, 1) := by decide +kernel
theorem dX5_cell_44 : decode cX5_cell 44 = .ok (.if_icmp .eq 9, 3) := by decide +kernel
theorem dX5_cell_47 : decode cX5_cell 47 = .ok (.aload_n 0, 1) := by decide +kernel
theorem dX5_cell_48 : decode cX5_cell 48 = .ok (.iconst 2, 1) := by decide +kernel
theorem dX5_cell_49 : decode cX5_cell 49 = .ok (.invokevirtual 202, 3) := by decide +kernel
theorem dX5_cell_52 : decode cX5_cell 52 = .ok (.lreturn, 1) := by decide +kernel
theorem dX5_cell_53 : decode cX5_cell 53 = .ok (.aload_n 0, 1) := by decide +kernel
theorem dX5_cell_54 : decode cX5_cell 54 = .ok (.iload_n 1, 1) := by decide +kernel
theorem dX5_cell_55 : decode cX5_cell 55 = .ok (.iload_n 2, 1) := by decide +kernel
theorem dX5_cell_56 : decode cX5_cell 56 = .ok (.invokevirtual 199, 3) := by decide +kernel
theorem dX5_cell_59 : decode cX5_cell 59 = .ok (.ifCond .le 16, 3) := by decide +kernel
theorem dX5_cell_62 : decode cX5_cell 62 = .ok (.aload_n 0, 1) := by decide +kernel
theorem dX5_cell_63 : decode cX5_cell 63 = .ok (.aload_n 0, 1) := by decide +kernel
theorem dX5_cell_64 : decode cX5_cell 64 = .ok (.iload_n 1, 1) := by decide +kernel
theorem dX5_cell_65 : decode cX5_cell 65 = .ok (.iload_n 2, 1) := by decide +kernel
theorem dX5_cell_66 : decode cX5_cell 66 = .ok (.invokevirtual 199, 3) := by decide +kernel
theorem dX5_cell_69 : decode cX5_cell 69 = .ok (.invokevirtual 202, 3) := by decide +kernel
theorem dX5_cell_72 : decode cX5_cell 72 = .ok (.goto 15, 3) := by decide +kernel
theorem dX5_cell_75 : decode cX5_cell 75 = .ok (.aload_n 0, 1) := by decide +kernel
theorem dX5_cell_76 : decode cX5_cell 76 = .ok (.getfield 37, 3) := by decide +kernel
theorem dX5_cell_79 : decode cX5_cell 79 = .ok (.bipush 60, 2) := by decide +kernel
theorem dX5_cell_81 : decode cX5_cell 81 = .ok (.iload_n 1, 1) := by decide +kernel
theorem dX5_cell_82 : decode cX5_cell 82 = .ok (.imul, 1) := by decide +kernel
theorem dX5_cell_83 : decode cX5_cell 83 = .ok (.iload_n 2, 1) := by decide +kernel
theorem dX5_cell_84 : decode cX5_cell 84 = .ok (.iadd, 1) := by decide +kernel
theorem dX5_cell_85 : decode cX5_cell 85 = .ok (.iaload, 1) := by decide +kernel
theorem dX5_cell_86 : decode cX5_cell 86 = .ok (.i2l, 1) := by decide +kernel
theorem dX5_cell_87 : decode cX5_cell 87 = .ok (.lreturn, 1) := by decide +kernel
theorem dX5_isBeyond_0 : decode cX5_isBeyond 0 = .ok (.iload_n 0, 1) := by decide +kernel
theorem dX5_isBeyond_1 : decode cX5_isBeyond 1 = .ok (.ifCond .lt 19, 3) := by decide +kernel
theorem dX5_isBeyond_4 : decode cX5_isBeyond 4 = .ok (.lload_n 1, 1) := by decide +kernel
theorem dX5_isBeyond_5 : decode cX5_isBeyond 5 = .ok (.lconst 0, 1) := by decide +kernel
theorem dX5_isBeyond_6 : decode cX5_isBeyond 6 = .ok (.lcmp, 1) := by decide +kernel
theorem dX5_isBeyond_7 : decode cX5_isBeyond 7 = .ok (.ifCond .lt 13, 3) := by decide +kernel
theorem dX5_isBeyond_10 : decode cX5_isBeyond 10 = .ok (.iload_n 0, 1) := by decide +kernel
theorem dX5_isBeyond_11 : decode cX5_isBeyond 11 = .ok (.i2l, 1) := by decide +kernel
theorem dX5_isBeyond_12 : decode cX5_isBeyond 12 = .ok (.lload_n 1, 1) := by decide +kernel
theorem dX5_isBeyond_13 : decode cX5_isBeyond 13 = .ok (.ladd, 1) := by decide +kernel
theorem dX5_isBeyond_14 : decode cX5_isBeyond 14 = .ok (.iload_n 3, 1) := by decide +kernel
theorem dX5_isBeyond_15 : decode cX5_isBeyond 15 = .ok (.i2l, 1) := by decide +kernel
theorem dX5_isBeyond_16 : decode cX5_isBeyond 16 = .ok (.lcmp, 1) := by decide +kernel
theorem dX5_isBeyond_17 : decode cX5_isBeyond 17 = .ok (.ifCond .le 7, 3) := by decide +kernel
theorem dX5_isBeyond_20 : decode cX5_isBeyond 20 = .ok (.iconst 1, 1) := by decide +kernel
theorem dX5_isBeyond_21 : decode cX5_isBeyond 21 = .ok (.goto 4, 3) := by decide +kernel
theorem dX5_isBeyond_24 : decode cX5_isBeyond 24 = .ok (.iconst 0, 1) := by decide +kernel
theorem dX5_isBeyond_25 : decode cX5_isBeyond 25 = .ok (.ireturn, 1) := by decide +kernel
set_option maxRecDepth 20000 in
theorem ggX5_copy_X5_noSheet : GoodIn wsX5_copy wsX5_noSheet := goodIn_r _ [8, 9, 10, 11, 7, 12] (by decide +kernel) (by decide +kernel)
set_option maxRecDepth 20000 in
theorem gX5_copy_X5_noSheet : GoodIn wsX5_copy (va_wsS RX5 95 yX5_noSheet wsX5_noSheet) := goodIn_app (goodIn_of _ (by decide +kernel)) ggX5_copy_X5_noSheet
set_option maxRecDepth 20000 in
theorem ggX5_copy_X5_refused : GoodIn wsX5_copy wsX5_refused := goodIn_r _ [16, 17, 25, 26, 27, 28, 29, 30, 31, 32, 33, 34, 35, 36, 37, 38, 39, 40, 41, 42, 43, 44, 45, 46, 47, 48] (by decide +kernel) (by decide +kernel)
set_option maxRecDepth 20000 in
theorem gX5_copy_X5_refused : GoodIn wsX5_copy (wsV RX5 99 RX5 yX5_refused wsX5_refused) := goodIn_app (goodIn_of _ (by decide +kernel)) ggX5_copy_X5_refused
set_option maxRecDepth 20000 in
theorem ggX5_copy_X5_failed : GoodIn wsX5_copy wsX5_failed := goodIn_r _ [21, 17, 25, 26, 27, 28, 29, 30, 31, 32, 33, 34, 35, 36, 37, 38, 39, 40, 41, 42, 43, 44, 45, 46, 47, 48] (by decide +kernel) (by decide +kernel)
set_option maxRecDepth 20000 in
theorem gX5_copy_X5_failed : GoodIn wsX5_copy (wsV RX5 87 RX5 yX5_failed wsX5_failed) := goodIn_app (goodIn_of _ (by decide +kernel)) ggX5_copy_X5_failed
set_option maxRecDepth 20000 in
theorem ggX5_copy_X5_isBeyond : GoodIn wsX5_copy wsX5_isBeyond := goodIn_r _ [24] (by decide +kernel) (by decide +kernel)
set_option maxRecDepth 20000 in
theorem gX5_copy_X5_isBeyond : GoodIn wsX5_copy (va_wsS RX5 91 yX5_isBeyond wsX5_isBeyond) := goodIn_app (goodIn_of _ (by decide +kernel)) ggX5_copy_X5_isBeyond
theorem dX5_copy_0 : decode cX5_copy 0 = .ok (.iload_n 1, 1) := by decide +kernel
theorem dX5_copy_1 : decode cX5_copy 1 = .ok (.invokestatic 95, 3) := by decide +kernel
theorem dX5_copy_4 : decode cX5_copy 4 = .ok (.ifCond .ne 10, 3) := by decide +kernel
theorem dX5_copy_7 : decode cX5_copy 7 = .ok (.iload_n 3, 1) := by decide +kernel
theorem dX5_copy_8 : decode cX5_copy 8 = .ok (.invokestatic 95, 3) := by decide +kernel
theorem dX5_copy_11 : decode cX5_copy 11 = .ok (.ifCond .eq 9, 3) := by decide +kernel
theorem dX5_copy_14 : decode cX5_copy 14 = .ok (.aload_n 0, 1) := by decide +kernel
theorem dX5_copy_15 : decode cX5_copy 15 = .ok (.iconst (-1), 1) := by decide +kernel
theorem dX5_copy_16 : decode cX5_copy 16 = .ok (.invokevirtual 99, 3) := by decide +kernel
theorem dX5_copy_19 : decode cX5_copy 19 = .ok (.ireturn, 1) := by decide +kernel
theorem dX5_copy_20 : decode cX5_copy 20 = .ok (.aload_n 0, 1) := by decide +kernel
theorem dX5_copy_21 : decode cX5_copy 21 = .ok (.getfield 31, 3) := by decide +kernel
theorem dX5_copy_24 : decode cX5_copy 24 = .ok (.iload_n 1, 1) := by decide +kernel
theorem dX5_copy_25 : decode cX5_copy 25 = .ok (.iaload, 1) := by decide +kernel
theorem dX5_copy_26 : decode cX5_copy 26 = .ok (.ifCond .lt 12, 3) := by decide +kernel
theorem dX5_copy_29 : decode cX5_copy 29 = .ok (.aload_n 0, 1) := by decide +kernel
theorem dX5_copy_30 : decode cX5_copy 30 = .ok (.getfield 31, 3) := by decide +kernel
theorem dX5_copy_33 : decode cX5_copy 33 = .ok (.iload_n 3, 1) := by decide +kernel
theorem dX5_copy_34 : decode cX5_copy 34 = .ok (.iaload, 1) := by decide +kernel
theorem dX5_copy_35 : decode cX5_copy 35 = .ok (.ifCond .ge 9, 3) := by decide +kernel
theorem dX5_copy_38 : decode cX5_copy 38 = .ok (.aload_n 0, 1) := by decide +kernel
theorem dX5_copy_39 : decode cX5_copy 39 = .ok (.iconst 1, 1) := by decide +kernel
theorem dX5_copy_40 : decode cX5_copy 40 = .ok (.invokevirtual 87, 3) := by decide +kernel
theorem dX5_copy_43 : decode cX5_copy 43 = .ok (.ireturn, 1) := by decide +kernel
theorem dX5_copy_44 : decode cX5_copy 44 = .ok (.aload_n 0, 1) := by decide +kernel
theorem dX5_copy_45 : decode cX5_copy 45 = .ok (.getfield 34, 3) := by decide +kernel
theorem dX5_copy_48 : decode cX5_copy 48 = .ok (.iload_n 1, 1) := by decide +kernel
theorem dX5_copy_49 : decode cX5_copy 49 = .ok (.iaload, 1) := by decide +kernel
theorem dX5_copy_50 : decode cX5_copy 50 = .ok (.aload_n 0, 1) := by decide +kernel
theorem dX5_copy_51 : decode cX5_copy 51 = .ok (.getfield 34, 3) := by decide +kernel
theorem dX5_copy_54 : decode cX5_copy 54 = .ok (.iload_n 3, 1) := by decide +kernel
theorem dX5_copy_55 : decode cX5_copy 55 = .ok (.iaload, 1) := by decide +kernel
theorem dX5_copy_56 : decode cX5_copy 56 = .ok (.if_icmp .eq 9, 3) := by decide +kernel
theorem dX5_copy_59 : decode cX5_copy 59 = .ok (.aload_n 0, 1) := by decide +kernel
theorem dX5_copy_60 : decode cX5_copy 60 = .ok (.iconst 2, 1) := by decide +kernel
theorem dX5_copy_61 : decode cX5_copy 61 = .ok (.invokevirtual 87, 3) := by decide +kernel
theorem dX5_copy_64 : decode cX5_copy 64 = .ok (.ireturn, 1) := by decide +kernel
theorem dX5_copy_65 : decode cX5_copy 65 = .ok (.iload_n 2, 1) := by decide +kernel
theorem dX5_copy_66 : decode cX5_copy 66 = .ok (.iload 5, 2) := by decide +kernel
theorem dX5_copy_68 : decode cX5_copy 68 = .ok (.i2l, 1) := by decide +kernel
theorem dX5_copy_69 : decode cX5_copy 69 = .ok (.aload_n 0, 1) := by decide +kernel
theorem dX5_copy_70 : decode cX5_copy 70 = .ok (.getfield 31, 3) := by decide +kernel
theorem dX5_copy_73 : decode cX5_copy 73 = .ok (.iload_n 1, 1) := by decide +kernel
theorem dX5_copy_74 : decode cX5_copy 74 = .ok (.iaload, 1) := by decide +kernel
theorem dX5_copy_75 : decode cX5_copy 75 = .ok (.invokestatic 91, 3) := by decide +kernel
theorem dX5_copy_78 : decode cX5_copy 78 = .ok (.ifCond .ne 20, 3) := by decide +kernel
theorem dX5_copy_81 : decode cX5_copy 81 = .ok (.iload 4, 2) := by decide +kernel
theorem dX5_copy_83 : decode cX5_copy 83 = .ok (.iload 5, 2) := by decide +kernel
theorem dX5_copy_85 : decode cX5_copy 85 = .ok (.i2l, 1) := by decide +kernel
theorem dX5_copy_86 : decode cX5_copy 86 = .ok (.aload_n 0, 1) := by decide +kernel
theorem dX5_copy_87 : decode cX5_copy 87 = .ok (.getfield 31, 3) := by decide +kernel
theorem dX5_copy_90 : decode cX5_copy 90 = .ok (.iload_n 3, 1) := by decide +kernel
theorem dX5_copy_91 : decode cX5_copy 91 = .ok (.iaload, 1) := by decide +kernel
theorem dX5_copy_92 : decode cX5_copy 92 = .ok (.invokestatic 91, 3) := by decide +kernel
theorem dX5_copy_95 : decode cX5_copy 95 = .ok (.ifCond .eq 9, 3) := by decide +kernel
theorem dX5_copy_98 : decode cX5_copy 98 = .ok (.aload_n 0, 1) := by decide +kernel
theorem dX5_copy_99 : decode cX5_copy 99 = .ok (.iconst 3, 1) := by decide +kernel
theorem dX5_copy_100 : decode cX5_copy 100 = .ok (.invokevirtual 87, 3) := by decide +kernel
theorem dX5_copy_103 : decode cX5_copy 103 = .ok (.ireturn, 1) := by decide +kernel
theorem dX5_copy_104 : decode cX5_copy 104 = .ok (.iconst 0, 1) := by decide +kernel
theorem dX5_copy_105 : decode cX5_copy 105 = .ok (.istore 6, 2) := by decide +kernel
theorem dX5_copy_107 : decode cX5_copy 107 = .ok (.iload 6, 2) := by decide +kernel
theorem dX5_copy_109 : decode cX5_copy 109 = .ok (.iload 5, 2) := by decide +kernel
theorem dX5_copy_111 : decode cX5_copy 111 = .ok (.if_icmp .ge 30, 3) := by decide +kernel
theorem dX5_copy_114 : decode cX5_copy 114 = .ok (.aload_n 0, 1) := by decide +kernel
theorem dX5_copy_115 : decode cX5_copy 115 = .ok (.getfield 40, 3) := by decide +kernel
theorem dX5_copy_118 : decode cX5_copy 118 = .ok (.iload 6, 2) := by decide +kernel
theorem dX5_copy_120 : decode cX5_copy 120 = .ok (.aload_n 0, 1) := by decide +kernel
theorem dX5_copy_121 : decode cX5_copy 121 = .ok (.getfield 37, 3) := by decide +kernel
theorem dX5_copy_124 : decode cX5_copy 124 = .ok (.bipush 60, 2) := by decide +kernel
theorem dX5_copy_126 : decode cX5_copy 126 = .ok (.iload_n 1, 1) := by decide +kernel
theorem dX5_copy_127 : decode cX5_copy 127 = .ok (.imul, 1) := by decide +kernel
theorem dX5_copy_128 : decode cX5_copy 128 = .ok (.iload_n 2, 1) := by decide +kernel
theorem dX5_copy_129 : decode cX5_copy 129 = .ok (.iadd, 1) := by decide +kernel
theorem dX5_copy_130 : decode cX5_copy 130 = .ok (.iload 6, 2) := by decide +kernel
theorem dX5_copy_132 : decode cX5_copy 132 = .ok (.iadd, 1) := by decide +kernel
theorem dX5_copy_133 : decode cX5_copy 133 = .ok (.iaload, 1) := by decide +kernel
theorem dX5_copy_134 : decode cX5_copy 134 = .ok (.iastore, 1) := by decide +kernel
theorem dX5_copy_135 : decode cX5_copy 135 = .ok (.iinc 6 1, 3) := by decide +kernel
theorem dX5_copy_138 : decode cX5_copy 138 = .ok (.goto (-31), 3) := by decide +kernel
theorem dX5_copy_141 : decode cX5_copy 141 = .ok (.iconst 0, 1) := by decide +kernel
theorem dX5_copy_142 : decode cX5_copy 142 = .ok (.istore 6, 2) := by decide +kernel
theorem dX5_copy_144 : decode cX5_copy 144 = .ok (.iload 6, 2) := by decide +kernel
theorem dX5_copy_146 : decode cX5_copy 146 = .ok (.iload 5, 2) := by decide +kernel
theorem dX5_copy_148 : decode cX5_copy 148 = .ok (.if_icmp .ge 31, 3) := by decide +kernel
theorem dX5_copy_151 : decode cX5_copy 151 = .ok (.aload_n 0, 1) := by decide +kernel
theorem dX5_copy_152 : decode cX5_copy 152 = .ok (.getfield 37, 3) := by decide +kernel
theorem dX5_copy_155 : decode cX5_copy 155 = .ok (.bipush 60, 2) := by decide +kernel
theorem dX5_copy_157 : decode cX5_copy 157 = .ok (.iload_n 3, 1) := by decide +kernel
theorem dX5_copy_158 : decode cX5_copy 158 = .ok (.imul, 1) := by decide +kernel
theorem dX5_copy_159 : decode cX5_copy 159 = .ok (.iload 4, 2) := by decide +kernel
theorem dX5_copy_161 : decode cX5_copy 161 = .ok (.iadd, 1) := by decide +kernel
theorem dX5_copy_162 : decode cX5_copy 162 = .ok (.iload 6, 2) := by decide +kernel
theorem dX5_copy_164 : decode cX5_copy 164 = .ok (.iadd, 1) := by decide +kernel
theorem dX5_copy_165 : decode cX5_copy 165 = .ok (.aload_n 0, 1) := by decide +kernel
theorem dX5_copy_166 : decode cX5_copy 166 = .ok (.getfield 40, 3) := by decide +kernel
theorem dX5_copy_169 : decode cX5_copy 169 = .ok (.iload 6, 2) := by decide +kernel
theorem dX5_copy_171 : decode cX5_copy 171 = .ok (.iaload, 1) := by decide +kernel
theorem dX5_copy_172 : decode cX5_copy 172 = .ok (.iastore, 1) := by decide +kernel
theorem dX5_copy_173 : decode cX5_copy 173 = .ok (.iinc 6 1, 3) := by decide +kernel
theorem dX5_copy_176 : decode cX5_copy 176 = .ok (.goto (-32), 3) := by decide +kernel
theorem dX5_copy_179 : decode cX5_copy 179 = .ok (.aload_n 0, 1) := by decide +kernel
theorem dX5_copy_180 : decode cX5_copy 180 = .ok (.iload 5, 2) := by decide +kernel
theorem dX5_copy_182 : decode cX5_copy 182 = .ok (.invokevirtual 99, 3) := by decide +kernel
theorem dX5_copy_185 : decode cX5_copy 185 = .ok (.ireturn, 1) := by decide +kernel
theorem dX5_traced_0 : decode cX5_traced 0 = .ok (.aload_n 0, 1) := by decide +kernel
theorem dX5_traced_1 : decode cX5_traced 1 = .ok (.bipush 31, 2) := by decide +kernel
theorem dX5_traced_3 : decode cX5_traced 3 = .ok (.aload_n 0, 1) := by decide +kernel
theorem dX5_traced_4 : decode cX5_traced 4 = .ok (.getfield 205, 3) := by decide +kernel
theorem dX5_traced_7 : decode cX5_traced 7 = .ok (.imul, 1) := by decide +kernel
theorem dX5_traced_8 : decode cX5_traced 8 = .ok (.iload_n 1, 1) := by decide +kernel
theorem dX5_traced_9 : decode cX5_traced 9 = .ok (.iadd, 1) := by decide +kernel
theorem dX5_traced_10 : decode cX5_traced 10 = .ok (.putfield 205, 3) := by decide +kernel
theorem dX5_traced_13 : decode cX5_traced 13 = .ok (.return_, 1) := by decide +kernel
set_option maxRecDepth 20000 in
theorem ggX5_tell_X5_noCitizen : GoodIn wsX5_tell wsX5_noCitizen := goodIn_r _ [7, 8, 9, 10, 6, 11, 17, 18, 19, 20, 21, 22, 23, 24, 25, 26, 27, 28, 29, 30, 31, 32, 33, 34, 35, 36, 37, 38, 39, 40] (by decide +kernel) (by decide +kernel)
set_option maxRecDepth 20000 in
theorem gX5_tell_X5_noCitizen : GoodIn wsX5_tell (wsV RX5 129 RX5 yX5_noCitizen wsX5_noCitizen) := goodIn_app (goodIn_of _ (by decide +kernel)) ggX5_tell_X5_noCitizen
set_option maxRecDepth 20000 in
theorem ggX5_tell_X5_traced : GoodIn wsX5_tell wsX5_traced := goodIn_r _ [15, 16, 17, 18, 19, 20, 21, 22, 23, 24, 25, 26, 27, 28, 29, 30, 31, 32, 33, 34, 35, 36, 37, 38, 39, 40] (by decide +kernel) (by decide +kernel)
set_option maxRecDepth 20000 in
theorem gX5_tell_X5_traced : GoodIn wsX5_tell (wsV RX5 208 RX5 yX5_traced wsX5_traced) := goodIn_app (goodIn_of _ (by decide +kernel)) ggX5_tell_X5_traced
theorem dX5_tell_0 : decode cX5_tell 0 = .ok (.aload_n 0, 1) := by decide +kernel
theorem dX5_tell_1 : decode cX5_tell 1 = .ok (.iload_n 1, 1) := by decide +kernel
theorem dX5_tell_2 : decode cX5_tell 2 = .ok (.invokevirtual 129, 3) := by decide +kernel
theorem dX5_tell_5 : decode cX5_tell 5 = .ok (.ifCond .eq 5, 3) := by decide +kernel
theorem dX5_tell_8 : decode cX5_tell 8 = .ok (.iconst (-1), 1) := by decide +kernel
theorem dX5_tell_9 : decode cX5_tell 9 = .ok (.ireturn, 1) := by decide +kernel
theorem dX5_tell_10 : decode cX5_tell 10 = .ok (.aload_n 0, 1) := by decide +kernel
theorem dX5_tell_11 : decode cX5_tell 11 = .ok (.getfield 7, 3) := by decide +kernel
theorem dX5_tell_14 : decode cX5_tell 14 = .ok (.iload_n 1, 1) := by decide +kernel
theorem dX5_tell_15 : decode cX5_tell 15 = .ok (.iaload, 1) := by decide +kernel
theorem dX5_tell_16 : decode cX5_tell 16 = .ok (.istore_n 2, 1) := by decide +kernel
theorem dX5_tell_17 : decode cX5_tell 17 = .ok (.iload_n 2, 1) := by decide +kernel
theorem dX5_tell_18 : decode cX5_tell 18 = .ok (.iconst 2, 1) := by decide +kernel
theorem dX5_tell_19 : decode cX5_tell 19 = .ok (.if_icmp .ne 8, 3) := by decide +kernel
theorem dX5_tell_22 : decode cX5_tell 22 = .ok (.aload_n 0, 1) := by decide +kernel
theorem dX5_tell_23 : decode cX5_tell 23 = .ok (.iconst 3, 1) := by decide +kernel
theorem dX5_tell_24 : decode cX5_tell 24 = .ok (.invokevirtual 208, 3) := by decide +kernel
theorem dX5_tell_27 : decode cX5_tell 27 = .ok (.iload_n 2, 1) := by decide +kernel
theorem dX5_tell_28 : decode cX5_tell 28 = .ok (.ifCond .le 8, 3) := by decide +kernel
theorem dX5_tell_31 : decode cX5_tell 31 = .ok (.aload_n 0, 1) := by decide +kernel
theorem dX5_tell_32 : decode cX5_tell 32 = .ok (.iconst 2, 1) := by decide +kernel
theorem dX5_tell_33 : decode cX5_tell 33 = .ok (.invokevirtual 208, 3) := by decide +kernel
theorem dX5_tell_36 : decode cX5_tell 36 = .ok (.aload_n 0, 1) := by decide +kernel
theorem dX5_tell_37 : decode cX5_tell 37 = .ok (.iconst 1, 1) := by decide +kernel
theorem dX5_tell_38 : decode cX5_tell 38 = .ok (.invokevirtual 208, 3) := by decide +kernel
theorem dX5_tell_41 : decode cX5_tell 41 = .ok (.iload_n 2, 1) := by decide +kernel
theorem dX5_tell_42 : decode cX5_tell 42 = .ok (.iconst 2, 1) := by decide +kernel
theorem dX5_tell_43 : decode cX5_tell 43 = .ok (.if_icmp .ne 8, 3) := by decide +kernel
theorem dX5_tell_46 : decode cX5_tell 46 = .ok (.aload_n 0, 1) := by decide +kernel
theorem dX5_tell_47 : decode cX5_tell 47 = .ok (.iconst 1, 1) := by decide +kernel
theorem dX5_tell_48 : decode cX5_tell 48 = .ok (.invokevirtual 208, 3) := by decide +kernel
theorem dX5_tell_51 : decode cX5_tell 51 = .ok (.aload_n 0, 1) := by decide +kernel
theorem dX5_tell_52 : decode cX5_tell 52 = .ok (.getfield 13, 3) := by decide +kernel
theorem dX5_tell_55 : decode cX5_tell 55 = .ok (.iload_n 1, 1) := by decide +kernel
theorem dX5_tell_56 : decode cX5_tell 56 = .ok (.iaload, 1) := by decide +kernel
theorem dX5_tell_57 : decode cX5_tell 57 = .ok (.istore_n 3, 1) := by decide +kernel
theorem dX5_tell_58 : decode cX5_tell 58 = .ok (.iload_n 2, 1) := by decide +kernel
theorem dX5_tell_59 : decode cX5_tell 59 = .ok (.ifCond .ne 7, 3) := by decide +kernel
theorem dX5_tell_62 : decode cX5_tell 62 = .ok (.iload_n 3, 1) := by decide +kernel
theorem dX5_tell_63 : decode cX5_tell 63 = .ok (.goto 21, 3) := by decide +kernel
theorem dX5_tell_66 : decode cX5_tell 66 = .ok (.iload_n 2, 1) := by decide +kernel
theorem dX5_tell_67 : decode cX5_tell 67 = .ok (.iconst 1, 1) := by decide +kernel
theorem dX5_tell_68 : decode cX5_tell 68 = .ok (.if_icmp .ne 10, 3) := by decide +kernel
theorem dX5_tell_71 : decode cX5_tell 71 = .ok (.iload_n 3, 1) := by decide +kernel
theorem dX5_tell_72 : decode cX5_tell 72 = .ok (.bipush 100, 2) := by decide +kernel
theorem dX5_tell_74 : decode cX5_tell 74 = .ok (.iadd, 1) := by decide +kernel
theorem dX5_tell_75 : decode cX5_tell 75 = .ok (.goto 9, 3) := by decide +kernel
theorem dX5_tell_78 : decode cX5_tell 78 = .ok (.iconst 2, 1) := by decide +kernel
theorem dX5_tell_79 : decode cX5_tell 79 = .ok (.iload_n 3, 1) := by decide +kernel
theorem dX5_tell_80 : decode cX5_tell 80 = .ok (.imul, 1) := by decide +kernel
theorem dX5_tell_81 : decode cX5_tell 81 = .ok (.bipush 100, 2) := by decide +kernel
theorem dX5_tell_83 : decode cX5_tell 83 = .ok (.iadd, 1) := by decide +kernel
theorem dX5_tell_84 : decode cX5_tell 84 = .ok (.ireturn, 1) := by decide +kernel
set_option maxRecDepth 20000 in
theorem ggX5_call_X5_noCitizen : GoodIn wsX5_call wsX5_noCitizen := goodIn_r _ [6, 7, 8, 9, 5, 10, 16, 17, 18, 19, 20, 21, 22, 23, 24, 25, 26, 27, 28, 29, 30, 31, 32, 33, 34, 35, 36, 37, 38, 39] (by decide +kernel) (by decide +kernel)
set_option maxRecDepth 20000 in
theorem gX5_call_X5_noCitizen : GoodIn wsX5_call (wsV RX5 129 RX5 yX5_noCitizen wsX5_noCitizen) := goodIn_app (goodIn_of _ (by decide +kernel)) ggX5_call_X5_noCitizen
set_option maxRecDepth 20000 in
theorem ggX5_call_X5_traced : GoodIn wsX5_call wsX5_traced := goodIn_r _ [14, 15, 16, 17, 18, 19, 20, 21, 22, 23, 24, 25, 26, 27, 28, 29, 30, 31, 32, 33, 34, 35, 36, 37, 38, 39] (by decide +kernel) (by decide +kernel)
set_option maxRecDepth 20000 in
theorem gX5_call_X5_traced : GoodIn wsX5_call (wsV RX5 208 RX5 yX5_traced wsX5_traced) := goodIn_app (goodIn_of _ (by decide +kernel)) ggX5_call_X5_traced
theorem dX5_call_0 : decode cX5_call 0 = .ok (.aload_n 0, 1) := by decide +kernel
theorem dX5_call_1 : decode cX5_call 1 = .ok (.iload_n 1, 1) := by decide +kernel
theorem dX5_call_2 : decode cX5_call 2 = .ok (.invokevirtual 129, 3) := by decide +kernel
theorem dX5_call_5 : decode cX5_call 5 = .ok (.ifCond .eq 5, 3) := by decide +kernel
theorem dX5_call_8 : decode cX5_call 8 = .ok (.iconst (-1), 1) := by decide +kernel
theorem dX5_call_9 : decode cX5_call 9 = .ok (.ireturn, 1) := by decide +kernel
theorem dX5_call_10 : decode cX5_call 10 = .ok (.aload_n 0, 1) := by decide +kernel
theorem dX5_call_11 : decode cX5_call 11 = .ok (.aload_n 0, 1) := by decide +kernel
theorem dX5_call_12 : decode cX5_call 12 = .ok (.getfield 7, 3) := by decide +kernel
theorem dX5_call_15 : decode cX5_call 15 = .ok (.iload_n 1, 1) := by decide +kernel
theorem dX5_call_16 : decode cX5_call 16 = .ok (.iaload, 1) := by decide +kernel
theorem dX5_call_17 : decode cX5_call 17 = .ok (.iconst 2, 1) := by decide +kernel
theorem dX5_call_18 : decode cX5_call 18 = .ok (.if_icmp .ne 7, 3) := by decide +kernel
theorem dX5_call_21 : decode cX5_call 21 = .ok (.iconst 5, 1) := by decide +kernel
theorem dX5_call_22 : decode cX5_call 22 = .ok (.goto 4, 3) := by decide +kernel
theorem dX5_call_25 : decode cX5_call 25 = .ok (.iconst 4, 1) := by decide +kernel
theorem dX5_call_26 : decode cX5_call 26 = .ok (.invokevirtual 208, 3) := by decide +kernel
theorem dX5_call_29 : decode cX5_call 29 = .ok (.aload_n 0, 1) := by decide +kernel
theorem dX5_call_30 : decode cX5_call 30 = .ok (.getfield 7, 3) := by decide +kernel
theorem dX5_call_33 : decode cX5_call 33 = .ok (.iload_n 1, 1) := by decide +kernel
theorem dX5_call_34 : decode cX5_call 34 = .ok (.iaload, 1) := by decide +kernel
theorem dX5_call_35 : decode cX5_call 35 = .ok (.iconst 2, 1) := by decide +kernel
theorem dX5_call_36 : decode cX5_call 36 = .ok (.if_icmp .ne 8, 3) := by decide +kernel
theorem dX5_call_39 : decode cX5_call 39 = .ok (.bipush 20, 2) := by decide +kernel
theorem dX5_call_41 : decode cX5_call 41 = .ok (.goto 4, 3) := by decide +kernel
theorem dX5_call_44 : decode cX5_call 44 = .ok (.iload_n 1, 1) := by decide +kernel
theorem dX5_call_45 : decode cX5_call 45 = .ok (.ireturn, 1) := by decide +kernel
set_option maxRecDepth 20000 in
theorem ggX5_as_X5_noCitizen : GoodIn wsX5_as wsX5_noCitizen := goodIn_r _ [7, 8, 9, 10, 6, 11, 21, 22, 23, 24, 25, 26, 27, 28, 29, 30, 31, 32, 33, 34, 35, 36, 37, 38, 39, 40, 41, 42, 43, 44] (by decide +kernel) (by decide +kernel)
set_option maxRecDepth 20000 in
theorem gX5_as_X5_noCitizen : GoodIn wsX5_as (wsV RX5 129 RX5 yX5_noCitizen wsX5_noCitizen) := goodIn_app (goodIn_of _ (by decide +kernel)) ggX5_as_X5_noCitizen
set_option maxRecDepth 20000 in
theorem ggX5_as_X5_refused : GoodIn wsX5_as wsX5_refused := goodIn_r _ [15, 16, 21, 22, 23, 24, 25, 26, 27, 28, 29, 30, 31, 32, 33, 34, 35, 36, 37, 38, 39, 40, 41, 42, 43, 44] (by decide +kernel) (by decide +kernel)
set_option maxRecDepth 20000 in
theorem gX5_as_X5_refused : GoodIn wsX5_as (wsV RX5 99 RX5 yX5_refused wsX5_refused) := goodIn_app (goodIn_of _ (by decide +kernel)) ggX5_as_X5_refused
set_option maxRecDepth 20000 in
theorem ggX5_as_X5_in : GoodIn wsX5_as wsX5_in := goodIn_r _ [11] (by decide +kernel) (by decide +kernel)
set_option maxRecDepth 20000 in
theorem gX5_as_X5_in : GoodIn wsX5_as (va_wsS RX5 56 yX5_in wsX5_in) := goodIn_app (goodIn_of _ (by decide +kernel)) ggX5_as_X5_in
set_option maxRecDepth 20000 in
theorem ggX5_as_X5_failed : GoodIn wsX5_as wsX5_failed := goodIn_r _ [20, 16, 21, 22, 23, 24, 25, 26, 27, 28, 29, 30, 31, 32, 33, 34, 35, 36, 37, 38, 39, 40, 41, 42, 43, 44] (by decide +kernel) (by decide +kernel)
set_option maxRecDepth 20000 in
theorem gX5_as_X5_failed : GoodIn wsX5_as (wsV RX5 87 RX5 yX5_failed wsX5_failed) := goodIn_app (goodIn_of _ (by decide +kernel)) ggX5_as_X5_failed
theorem dX5_as_0 : decode cX5_as 0 = .ok (.aload_n 0, 1) := by decide +kernel
theorem dX5_as_1 : decode cX5_as 1 = .ok (.iload_n 1, 1) := by decide +kernel
theorem dX5_as_2 : decode cX5_as 2 = .ok (.invokevirtual 129, 3) := by decide +kernel
theorem dX5_as_5 : decode cX5_as 5 = .ok (.ifCond .eq 9, 3) := by decide +kernel
theorem dX5_as_8 : decode cX5_as 8 = .ok (.aload_n 0, 1) := by decide +kernel
theorem dX5_as_9 : decode cX5_as 9 = .ok (.iconst (-1), 1) := by decide +kernel
theorem dX5_as_10 : decode cX5_as 10 = .ok (.invokevirtual 99, 3) := by decide +kernel
theorem dX5_as_13 : decode cX5_as 13 = .ok (.ireturn, 1) := by decide +kernel
theorem dX5_as_14 : decode cX5_as 14 = .ok (.iload_n 2, 1) := by decide +kernel
theorem dX5_as_15 : decode cX5_as 15 = .ok (.i2l, 1) := by decide +kernel
theorem dX5_as_16 : decode cX5_as 16 = .ok (.lconst 0, 1) := by decide +kernel
theorem dX5_as_17 : decode cX5_as 17 = .ok (.ldc2_w 102, 3) := by decide +kernel
theorem dX5_as_20 : decode cX5_as 20 = .ok (.invokestatic 56, 3) := by decide +kernel
theorem dX5_as_23 : decode cX5_as 23 = .ok (.ifCond .ne 10, 3) := by decide +kernel
theorem dX5_as_26 : decode cX5_as 26 = .ok (.aload_n 0, 1) := by decide +kernel
theorem dX5_as_27 : decode cX5_as 27 = .ok (.bipush (-2), 2) := by decide +kernel
theorem dX5_as_29 : decode cX5_as 29 = .ok (.invokevirtual 99, 3) := by decide +kernel
theorem dX5_as_32 : decode cX5_as 32 = .ok (.ireturn, 1) := by decide +kernel
theorem dX5_as_33 : decode cX5_as 33 = .ok (.aload_n 0, 1) := by decide +kernel
theorem dX5_as_34 : decode cX5_as 34 = .ok (.getfield 7, 3) := by decide +kernel
theorem dX5_as_37 : decode cX5_as 37 = .ok (.iload_n 1, 1) := by decide +kernel
theorem dX5_as_38 : decode cX5_as 38 = .ok (.iaload, 1) := by decide +kernel
theorem dX5_as_39 : decode cX5_as 39 = .ok (.iload_n 2, 1) := by decide +kernel
theorem dX5_as_40 : decode cX5_as 40 = .ok (.if_icmp .lt 11, 3) := by decide +kernel
theorem dX5_as_43 : decode cX5_as 43 = .ok (.aload_n 0, 1) := by decide +kernel
theorem dX5_as_44 : decode cX5_as 44 = .ok (.iconst 1, 1) := by decide +kernel
theorem dX5_as_45 : decode cX5_as 45 = .ok (.invokevirtual 99, 3) := by decide +kernel
theorem dX5_as_48 : decode cX5_as 48 = .ok (.goto 8, 3) := by decide +kernel
theorem dX5_as_51 : decode cX5_as 51 = .ok (.aload_n 0, 1) := by decide +kernel
theorem dX5_as_52 : decode cX5_as 52 = .ok (.iconst 2, 1) := by decide +kernel
theorem dX5_as_53 : decode cX5_as 53 = .ok (.invokevirtual 87, 3) := by decide +kernel
theorem dX5_as_56 : decode cX5_as 56 = .ok (.ireturn, 1) := by decide +kernel
theorem dX5_trace_0 : decode cX5_trace 0 = .ok (.aload_n 0, 1) := by decide +kernel
theorem dX5_trace_1 : decode cX5_trace 1 = .ok (.getfield 205, 3) := by decide +kernel
theorem dX5_trace_4 : decode cX5_trace 4 = .ok (.ireturn, 1) := by decide +kernel
theorem dX5_fault_0 : decode cX5_fault 0 = .ok (.aload_n 0, 1) := by decide +kernel
theorem dX5_fault_1 : decode cX5_fault 1 = .ok (.getfield 45, 3) := by decide +kernel
theorem dX5_fault_4 : decode cX5_fault 4 = .ok (.ireturn, 1) := by decide +kernel
set_option maxRecDepth 20000 in
theorem ggX5_many_X5_everybody : GoodIn wsX5_many wsX5_everybody := goodIn_r _ [9, 1, 23, 24, 25, 26, 27, 28, 29, 30, 31, 32, 33, 34, 35, 36, 37, 38, 39, 40, 41, 42, 43, 44, 45, 46] (by decide +kernel) (by decide +kernel)
set_option maxRecDepth 20000 in
theorem gX5_many_X5_everybody : GoodIn wsX5_many (wsV RX5 145 RX5 yX5_everybody wsX5_everybody) := goodIn_app (goodIn_of _ (by decide +kernel)) ggX5_many_X5_everybody
set_option maxRecDepth 20000 in
theorem ggX5_many_X5_slipsOfAll : GoodIn wsX5_many wsX5_slipsOfAll := goodIn_r _ [13, 1, 14, 15, 8, 16, 17, 18, 19, 20, 21, 22, 23, 24, 25, 26, 27, 28, 29, 30, 31, 32, 33, 34, 35, 36, 37, 38, 39, 40, 41, 42, 43, 44, 45, 46] (by decide +kernel) (by decide +kernel)
set_option maxRecDepth 20000 in
theorem gX5_many_X5_slipsOfAll : GoodIn wsX5_many (wsV RX5 132 RX5 yX5_slipsOfAll wsX5_slipsOfAll) := goodIn_app (goodIn_of _ (by decide +kernel)) ggX5_many_X5_slipsOfAll
theorem dX5_many_0 : decode cX5_many 0 = .ok (.iload_n 1, 1) := by decide +kernel
theorem dX5_many_1 : decode cX5_many 1 = .ok (.tableswitch 64 0 4 #[35, 40, 49, 54, 59], 35) := by decide +kernel
theorem dX5_many_36 : decode cX5_many 36 = .ok (.aload_n 0, 1) := by decide +kernel
theorem dX5_many_37 : decode cX5_many 37 = .ok (.getfield 53, 3) := by decide +kernel
theorem dX5_many_40 : decode cX5_many 40 = .ok (.ireturn, 1) := by decide +kernel
theorem dX5_many_41 : decode cX5_many 41 = .ok (.aload_n 0, 1) := by decide +kernel
theorem dX5_many_42 : decode cX5_many 42 = .ok (.aload_n 0, 1) := by decide +kernel
theorem dX5_many_43 : decode cX5_many 43 = .ok (.invokevirtual 145, 3) := by decide +kernel
theorem dX5_many_46 : decode cX5_many 46 = .ok (.invokevirtual 132, 3) := by decide +kernel
theorem dX5_many_49 : decode cX5_many 49 = .ok (.ireturn, 1) := by decide +kernel
theorem dX5_many_50 : decode cX5_many 50 = .ok (.aload_n 0, 1) := by decide +kernel
theorem dX5_many_51 : decode cX5_many 51 = .ok (.getfield 111, 3) := by decide +kernel
theorem dX5_many_54 : decode cX5_many 54 = .ok (.ireturn, 1) := by decide +kernel
theorem dX5_many_55 : decode cX5_many 55 = .ok (.aload_n 0, 1) := by decide +kernel
theorem dX5_many_56 : decode cX5_many 56 = .ok (.getfield 114, 3) := by decide +kernel
theorem dX5_many_59 : decode cX5_many 59 = .ok (.ireturn, 1) := by decide +kernel
theorem dX5_many_60 : decode cX5_many 60 = .ok (.aload_n 0, 1) := by decide +kernel
theorem dX5_many_61 : decode cX5_many 61 = .ok (.getfield 120, 3) := by decide +kernel
theorem dX5_many_64 : decode cX5_many 64 = .ok (.ireturn, 1) := by decide +kernel
theorem dX5_many_65 : decode cX5_many 65 = .ok (.bipush (-2), 2) := by decide +kernel
theorem dX5_many_67 : decode cX5_many 67 = .ok (.ireturn, 1) := by decide +kernel
end
section
set_option maxRecDepth 20000 in
theorem ggL_law_X4_init : GoodIn wsL_law wsX4_init := goodIn_r _ [8, 9, 10, 11, 12, 13, 14, 15, 16, 17, 18, 19, 20, 21, 22, 23, 24, 25, 26, 27, 28, 29, 30, 31, 32, 33, 34, 35, 36, 37, 38, 39, 666, 667, 668, 669, 670, 671, 672, 673, 674, 675, 700, 701, 702, 703, 704, 705, 706, 707, 708, 709, 710, 711, 712, 713, 714] (by decide +kernel) (by decide +kernel)
set_option maxRecDepth 20000 in
theorem gL_law_X4_init : GoodIn wsL_law (wsX4_init) := ggL_law_X4_init
set_option maxRecDepth 20000 in
theorem ggL_law_X5_init : GoodIn wsL_law wsX5_init := goodIn_r _ [42, 43, 10, 11, 14, 44, 45, 46, 47, 48, 49, 50, 51, 52, 53, 54, 676, 677, 678, 679, 680, 681, 682, 683, 684, 685, 686, 687, 688, 689, 690, 691, 692, 693, 694, 695, 696, 697, 698, 699] (by decide +kernel) (by decide +kernel)
set_option maxRecDepth 20000 in
theorem gL_law_X5_init : GoodIn wsL_law (wsX5_init) := ggL_law_X5_init
set_option maxRecDepth 20000 in
theorem ggL_law_X4_republic : GoodIn wsL_law wsX4_republic := goodIn_r _ [58, 59, 60, 61, 62, 2, 63, 64, 65, 66, 67, 68, 69, 70, 71, 72, 73, 74, 17, 75, 76, 77, 78, 25, 79, 80, 81, 82, 83, 84, 85, 86, 87, 88, 89, 90, 91, 39, 92, 93, 94, 95, 96, 97, 98, 99, 100, 101, 102, 103, 104, 105, 106, 107, 108, 109, 110, 111, 112, 113, 114, 115, 116, 117, 118, 119, 13, 120, 121, 122, 666, 667, 668, 669, 670, 671, 672, 673, 674, 675, 711, 712, 713, 714, 707, 708, 709, 710] (by decide +kernel) (by decide +kernel)
set_option maxRecDepth 20000 in
theorem gL_law_X4_republic : GoodIn wsL_law (wsV RL 13 RX4 yX4_republic wsX4_republic) := goodIn_app (goodIn_of _ (by decide +kernel)) ggL_law_X4_republic
set_option maxRecDepth 20000 in
theorem ggL_law_X5_republic : GoodIn wsL_law wsX5_republic := goodIn_r _ [126, 127, 128, 129, 130, 131, 132, 133, 134, 135, 136, 44, 47, 45, 48, 46, 49, 137, 138, 139, 5, 140, 141, 142, 143, 144, 145, 146, 147, 148, 149, 150, 151, 152, 153, 51, 52, 154, 155, 156, 157, 158, 159, 160, 161, 162, 163, 164, 165, 166, 167, 168, 53, 169, 170, 171, 172, 173, 174, 175, 176, 676, 677, 678, 679, 680, 681, 682, 683, 684, 685, 686, 687, 688, 689, 690, 691, 692, 693, 694, 695, 696, 697, 698, 699] (by decide +kernel) (by decide +kernel)
set_option maxRecDepth 20000 in
theorem gL_law_X5_republic : GoodIn wsL_law (wsV RL 17 RX5 yX5_republic wsX5_republic) := goodIn_app (goodIn_of _ (by decide +kernel)) ggL_law_X5_republic
set_option maxRecDepth 20000 in
theorem ggL_law_X4_ofCitizen : GoodIn wsL_law wsX4_ofCitizen := goodIn_r _ [180, 116, 117, 118, 2, 119, 60, 13, 181, 23, 182, 183, 184, 185, 186, 187, 188, 189, 190, 191, 707, 708, 709, 710, 666, 667, 668, 669, 670, 671, 672, 673, 674, 675] (by decide +kernel) (by decide +kernel)
set_option maxRecDepth 20000 in
theorem gL_law_X4_ofCitizen : GoodIn wsL_law (wsV RL 18 RX4 yX4_ofCitizen wsX4_ofCitizen) := goodIn_app (goodIn_of _ (by decide +kernel)) ggL_law_X4_ofCitizen
set_option maxRecDepth 20000 in
theorem ggL_law_X5_ofCitizen : GoodIn wsL_law wsX5_ofCitizen := goodIn_r _ [195, 44, 45, 46, 136, 196, 197, 198, 5, 199, 134, 142, 143, 144, 200, 201, 202, 203, 204, 205, 206, 207, 208, 209, 210, 676, 677, 678, 679, 680, 681, 682, 683, 684, 685, 686, 687, 688, 689, 690, 691, 692, 693, 694, 695, 696, 697, 698, 699] (by decide +kernel) (by decide +kernel)
set_option maxRecDepth 20000 in
theorem gL_law_X5_ofCitizen : GoodIn wsL_law (wsV RL 22 RX5 yX5_ofCitizen wsX5_ofCitizen) := goodIn_app (goodIn_of _ (by decide +kernel)) ggL_law_X5_ofCitizen
set_option maxRecDepth 20000 in
theorem ggL_law_X4_drawn : GoodIn wsL_law wsX4_drawn := goodIn_r _ [214, 60, 105, 666, 667, 668, 669, 670, 671, 672, 673, 674, 675] (by decide +kernel) (by decide +kernel)
set_option maxRecDepth 20000 in
theorem gL_law_X4_drawn : GoodIn wsL_law (wsV RL 23 RX4 yX4_drawn wsX4_drawn) := goodIn_app (goodIn_of _ (by decide +kernel)) ggL_law_X4_drawn
set_option maxRecDepth 20000 in
theorem ggL_law_X5_drawn : GoodIn wsL_law wsX5_drawn := goodIn_r _ [218, 219, 134, 130, 142, 143, 5, 144, 676, 677, 678, 679, 680, 681, 682, 683, 684, 685, 686, 687, 688, 689, 690, 691, 692, 693, 694, 695, 696, 697, 698, 699] (by decide +kernel) (by decide +kernel)
set_option maxRecDepth 20000 in
theorem gL_law_X5_drawn : GoodIn wsL_law (wsV RL 27 RX5 yX5_drawn wsX5_drawn) := goodIn_app (goodIn_of _ (by decide +kernel)) ggL_law_X5_drawn
set_option maxRecDepth 20000 in
theorem ggL_law_X4_price : GoodIn wsL_law wsX4_price := goodIn_r _ [223, 60, 106, 666, 667, 668, 669, 670, 671, 672, 673, 674, 675] (by decide +kernel) (by decide +kernel)
set_option maxRecDepth 20000 in
theorem gL_law_X4_price : GoodIn wsL_law (wsV RL 28 RX4 yX4_price wsX4_price) := goodIn_app (goodIn_of _ (by decide +kernel)) ggL_law_X4_price
set_option maxRecDepth 20000 in
theorem ggL_law_X5_price : GoodIn wsL_law wsX5_price := goodIn_r _ [227, 228, 134, 132, 142, 143, 5, 144, 676, 677, 678, 679, 680, 681, 682, 683, 684, 685, 686, 687, 688, 689, 690, 691, 692, 693, 694, 695, 696, 697, 698, 699] (by decide +kernel) (by decide +kernel)
set_option maxRecDepth 20000 in
theorem gL_law_X5_price : GoodIn wsL_law (wsV RL 31 RX5 yX5_price wsX5_price) := goodIn_app (goodIn_of _ (by decide +kernel)) ggL_law_X5_price
set_option maxRecDepth 20000 in
theorem ggL_law_X4_wish : GoodIn wsL_law wsX4_wish := goodIn_r _ [232, 116, 117, 118, 2, 119, 60, 13, 707, 708, 709, 710, 666, 667, 668, 669, 670, 671, 672, 673, 674, 675] (by decide +kernel) (by decide +kernel)
set_option maxRecDepth 20000 in
theorem gL_law_X4_wish : GoodIn wsL_law (wsV RL 32 RX4 yX4_wish wsX4_wish) := goodIn_app (goodIn_of _ (by decide +kernel)) ggL_law_X4_wish
set_option maxRecDepth 20000 in
theorem ggL_law_X5_wish : GoodIn wsL_law wsX5_wish := goodIn_r _ [236, 136, 196, 197, 198, 5, 199, 134, 142, 143, 144, 200, 201, 202, 676, 677, 678, 679, 680, 681, 682, 683, 684, 685, 686, 687, 688, 689, 690, 691, 692, 693, 694, 695, 696, 697, 698, 699] (by decide +kernel) (by decide +kernel)
set_option maxRecDepth 20000 in
theorem gL_law_X5_wish : GoodIn wsL_law (wsV RL 36 RX5 yX5_wish wsX5_wish) := goodIn_app (goodIn_of _ (by decide +kernel)) ggL_law_X5_wish
set_option maxRecDepth 20000 in
theorem ggL_law_X4_draw : GoodIn wsL_law wsX4_draw := goodIn_r _ [240, 59, 60, 21, 61, 62, 2, 63, 64, 65, 66, 67, 68, 69, 70, 71, 72, 73, 74, 17, 75, 76, 77, 78, 25, 79, 80, 81, 82, 83, 84, 85, 241, 242, 243, 244, 89, 90, 91, 39, 245, 246, 247, 248, 116, 117, 118, 119, 13, 181, 23, 182, 183, 184, 185, 186, 187, 249, 250, 251, 252, 253, 254, 255, 256, 257, 258, 259, 260, 105, 261, 20, 262, 263, 264, 111, 112, 113, 265, 266, 267, 268, 269, 270, 29, 271, 272, 273, 274, 275, 276, 277, 278, 31, 279, 280, 281, 282, 283, 284, 285, 286, 287, 288, 289, 290, 291, 292, 293, 294, 666, 667, 668, 669, 670, 671, 672, 673, 674, 675, 711, 712, 713, 714, 707, 708, 709, 710, 700, 701, 702, 703, 704, 705, 706] (by decide +kernel) (by decide +kernel)
set_option maxRecDepth 20000 in
theorem gL_law_X4_draw : GoodIn wsL_law (wsV RL 37 RX4 yX4_draw wsX4_draw) := goodIn_app (goodIn_of _ (by decide +kernel)) ggL_law_X4_draw
set_option maxRecDepth 20000 in
theorem ggL_law_X5_draw : GoodIn wsL_law wsX5_draw := goodIn_r _ [298, 127, 299, 134, 300, 138, 139, 5, 140, 141, 142, 143, 144, 145, 146, 147, 148, 149, 150, 151, 152, 153, 51, 52, 154, 155, 156, 157, 158, 159, 160, 301, 302, 303, 304, 305, 306, 307, 308, 53, 207, 208, 209, 210, 200, 201, 202, 203, 204, 205, 206, 45, 44, 309, 310, 311, 312, 313, 314, 315, 316, 136, 317, 318, 319, 676, 677, 678, 679, 680, 681, 682, 683, 684, 685, 686, 687, 688, 689, 690, 691, 692, 693, 694, 695, 696, 697, 698, 699] (by decide +kernel) (by decide +kernel)
set_option maxRecDepth 20000 in
theorem gL_law_X5_draw : GoodIn wsL_law (wsV RL 41 RX5 yX5_draw wsX5_draw) := goodIn_app (goodIn_of _ (by decide +kernel)) ggL_law_X5_draw
set_option maxRecDepth 20000 in
theorem ggL_law_X4_rules : GoodIn wsL_law wsX4_rules := goodIn_r _ [323, 324, 21, 116, 117, 118, 2, 119, 60, 13, 325, 326, 327, 257, 258, 259, 260, 105, 261, 20, 262, 263, 264, 111, 112, 113, 265, 266, 267, 268, 269, 270, 29, 271, 272, 273, 274, 275, 181, 23, 182, 183, 184, 185, 186, 187, 276, 277, 278, 31, 279, 280, 281, 282, 283, 284, 328, 329, 330, 331, 332, 333, 334, 335, 336, 337, 338, 339, 340, 341, 342, 343, 344, 666, 667, 668, 669, 670, 671, 672, 673, 674, 675, 707, 708, 709, 710, 700, 701, 702, 703, 704, 705, 706] (by decide +kernel) (by decide +kernel)
set_option maxRecDepth 20000 in
theorem gL_law_X4_rules : GoodIn wsL_law (wsV RL 42 RX4 yX4_rules wsX4_rules) := goodIn_app (goodIn_of _ (by decide +kernel)) ggL_law_X4_rules
set_option maxRecDepth 20000 in
theorem ggL_law_X5_rules : GoodIn wsL_law wsX5_rules := goodIn_r _ [348, 196, 197, 198, 5, 199, 134, 142, 143, 144, 349, 350, 351, 352, 353, 354, 355, 356, 301, 302, 303, 304, 207, 208, 209, 210, 200, 201, 202, 203, 204, 205, 206, 45, 44, 357, 358, 359, 360, 130, 361, 362, 363, 364, 365, 366, 367, 368, 369, 370, 676, 677, 678, 679, 680, 681, 682, 683, 684, 685, 686, 687, 688, 689, 690, 691, 692, 693, 694, 695, 696, 697, 698, 699] (by decide +kernel) (by decide +kernel)
set_option maxRecDepth 20000 in
theorem gL_law_X5_rules : GoodIn wsL_law (wsV RL 46 RX5 yX5_rules wsX5_rules) := goodIn_app (goodIn_of _ (by decide +kernel)) ggL_law_X5_rules
set_option maxRecDepth 20000 in
theorem ggL_law_X4_just : GoodIn wsL_law wsX4_just := goodIn_r _ [374, 60, 324, 21, 375, 376, 377, 2, 378, 325, 326, 327, 257, 258, 259, 260, 105, 261, 20, 262, 263, 264, 111, 112, 113, 265, 266, 267, 268, 269, 270, 29, 271, 272, 273, 274, 275, 116, 117, 118, 119, 13, 181, 23, 182, 183, 184, 185, 186, 187, 276, 277, 278, 31, 279, 280, 281, 282, 283, 284, 379, 380, 381, 382, 383, 384, 385, 386, 387, 388, 389, 32, 335, 336, 337, 338, 288, 289, 290, 291, 292, 293, 294, 390, 391, 392, 393, 394, 395, 396, 397, 398, 399, 400, 401, 339, 340, 341, 342, 343, 344, 666, 667, 668, 669, 670, 671, 672, 673, 674, 675, 707, 708, 709, 710, 700, 701, 702, 703, 704, 705, 706] (by decide +kernel) (by decide +kernel)
set_option maxRecDepth 20000 in
theorem gL_law_X4_just : GoodIn wsL_law (wsV RL 47 RX4 yX4_just wsX4_just) := goodIn_app (goodIn_of _ (by decide +kernel)) ggL_law_X4_just
set_option maxRecDepth 20000 in
theorem ggL_law_X5_just : GoodIn wsL_law wsX5_just := goodIn_r _ [405, 134, 301, 302, 303, 5, 304, 142, 143, 144, 349, 350, 351, 352, 406, 407, 408, 409, 207, 208, 209, 210, 200, 201, 202, 203, 204, 205, 206, 45, 44, 357, 358, 359, 360, 130, 361, 362, 363, 317, 318, 319, 364, 365, 366, 367, 368, 369, 370, 676, 677, 678, 679, 680, 681, 682, 683, 684, 685, 686, 687, 688, 689, 690, 691, 692, 693, 694, 695, 696, 697, 698, 699] (by decide +kernel) (by decide +kernel)
set_option maxRecDepth 20000 in
theorem gL_law_X5_just : GoodIn wsL_law (wsV RL 50 RX5 yX5_just wsX5_just) := goodIn_app (goodIn_of _ (by decide +kernel)) ggL_law_X5_just
set_option maxRecDepth 20000 in
theorem ggL_law_X4_mean : GoodIn wsL_law wsX4_mean := goodIn_r _ [413, 60, 324, 21, 325, 326, 2, 327, 257, 258, 259, 260, 105, 261, 20, 262, 263, 264, 111, 112, 113, 265, 266, 267, 268, 269, 270, 29, 271, 272, 273, 274, 275, 116, 117, 118, 119, 13, 181, 23, 182, 183, 184, 185, 186, 187, 276, 277, 278, 31, 279, 280, 281, 282, 283, 284, 328, 329, 330, 331, 332, 333, 334, 335, 336, 337, 338, 339, 340, 341, 342, 343, 344, 666, 667, 668, 669, 670, 671, 672, 673, 674, 675, 707, 708, 709, 710, 700, 701, 702, 703, 704, 705, 706] (by decide +kernel) (by decide +kernel)
set_option maxRecDepth 20000 in
theorem gL_law_X4_mean : GoodIn wsL_law (wsV RL 51 RX4 yX4_mean wsX4_mean) := goodIn_app (goodIn_of _ (by decide +kernel)) ggL_law_X4_mean
set_option maxRecDepth 20000 in
theorem ggL_law_X5_mean : GoodIn wsL_law wsX5_mean := goodIn_r _ [417, 134, 142, 143, 5, 144, 349, 350, 351, 352, 353, 354, 355, 356, 301, 302, 303, 304, 207, 208, 209, 210, 200, 201, 202, 203, 204, 205, 206, 45, 44, 357, 358, 359, 360, 130, 361, 362, 363, 364, 365, 366, 367, 368, 369, 370, 676, 677, 678, 679, 680, 681, 682, 683, 684, 685, 686, 687, 688, 689, 690, 691, 692, 693, 694, 695, 696, 697, 698, 699] (by decide +kernel) (by decide +kernel)
set_option maxRecDepth 20000 in
theorem gL_law_X5_mean : GoodIn wsL_law (wsV RL 55 RX5 yX5_mean wsX5_mean) := goodIn_app (goodIn_of _ (by decide +kernel)) ggL_law_X5_mean
set_option maxRecDepth 20000 in
theorem ggL_law_X4_passes : GoodIn wsL_law wsX4_passes := goodIn_r _ [421, 60, 324, 21, 325, 326, 2, 327, 257, 258, 259, 260, 105, 261, 20, 262, 263, 264, 111, 112, 113, 265, 266, 267, 268, 269, 270, 29, 271, 272, 273, 274, 275, 116, 117, 118, 119, 13, 181, 23, 182, 183, 184, 185, 186, 187, 276, 277, 278, 31, 279, 280, 281, 282, 283, 284, 422, 423, 424, 382, 383, 384, 385, 386, 387, 388, 389, 32, 335, 336, 337, 338, 288, 289, 290, 291, 292, 293, 294, 390, 391, 392, 393, 394, 395, 396, 397, 425, 285, 286, 287, 398, 399, 400, 401, 339, 340, 341, 342, 343, 344, 666, 667, 668, 669, 670, 671, 672, 673, 674, 675, 707, 708, 709, 710, 700, 701, 702, 703, 704, 705, 706] (by decide +kernel) (by decide +kernel)
set_option maxRecDepth 20000 in
theorem gL_law_X4_passes : GoodIn wsL_law (wsV RL 56 RX4 yX4_passes wsX4_passes) := goodIn_app (goodIn_of _ (by decide +kernel)) ggL_law_X4_passes
set_option maxRecDepth 20000 in
theorem ggL_law_X5_passes : GoodIn wsL_law wsX5_passes := goodIn_r _ [429, 134, 142, 143, 5, 144, 349, 350, 351, 352, 430, 431, 432, 433, 301, 302, 303, 304, 313, 314, 315, 316, 136, 317, 318, 319, 406, 407, 408, 409, 207, 208, 209, 210, 200, 201, 202, 203, 204, 205, 206, 45, 44, 357, 358, 359, 360, 130, 361, 362, 363, 364, 365, 366, 367, 368, 369, 370, 676, 677, 678, 679, 680, 681, 682, 683, 684, 685, 686, 687, 688, 689, 690, 691, 692, 693, 694, 695, 696, 697, 698, 699] (by decide +kernel) (by decide +kernel)
set_option maxRecDepth 20000 in
theorem gL_law_X5_passes : GoodIn wsL_law (wsV RL 59 RX5 yX5_passes wsX5_passes) := goodIn_app (goodIn_of _ (by decide +kernel)) ggL_law_X5_passes
set_option maxRecDepth 20000 in
theorem ggL_law_X4_buy : GoodIn wsL_law wsX4_buy := goodIn_r _ [437, 106, 21, 116, 117, 118, 2, 119, 60, 13, 257, 258, 259, 260, 105, 261, 20, 262, 263, 264, 111, 112, 113, 265, 266, 267, 268, 269, 270, 29, 271, 272, 273, 274, 275, 181, 23, 182, 183, 184, 185, 186, 187, 276, 277, 278, 31, 279, 280, 281, 282, 283, 284, 339, 340, 341, 335, 336, 337, 338, 328, 329, 330, 331, 332, 333, 334, 666, 667, 668, 669, 670, 671, 672, 673, 674, 675, 707, 708, 709, 710, 700, 701, 702, 703, 704, 705, 706] (by decide +kernel) (by decide +kernel)
set_option maxRecDepth 20000 in
theorem gL_law_X4_buy : GoodIn wsL_law (wsV RL 60 RX4 yX4_buy wsX4_buy) := goodIn_app (goodIn_of _ (by decide +kernel)) ggL_law_X4_buy
set_option maxRecDepth 20000 in
theorem ggL_law_X5_buy : GoodIn wsL_law wsX5_buy := goodIn_r _ [441, 442, 132, 46, 196, 197, 198, 5, 199, 134, 142, 143, 144, 301, 302, 303, 304, 207, 208, 209, 210, 200, 201, 202, 203, 204, 205, 206, 45, 44, 357, 358, 359, 360, 130, 361, 362, 363, 676, 677, 678, 679, 680, 681, 682, 683, 684, 685, 686, 687, 688, 689, 690, 691, 692, 693, 694, 695, 696, 697, 698, 699] (by decide +kernel) (by decide +kernel)
set_option maxRecDepth 20000 in
theorem gL_law_X5_buy : GoodIn wsL_law (wsV RL 64 RX5 yX5_buy wsX5_buy) := goodIn_app (goodIn_of _ (by decide +kernel)) ggL_law_X5_buy
set_option maxRecDepth 20000 in
theorem ggL_law_X4_lend : GoodIn wsL_law wsX4_lend := goodIn_r _ [446, 21, 60, 116, 117, 118, 2, 119, 13, 257, 258, 259, 260, 105, 261, 20, 262, 263, 264, 111, 112, 113, 265, 266, 267, 268, 269, 270, 29, 271, 272, 273, 274, 275, 181, 23, 182, 183, 184, 185, 186, 187, 276, 277, 278, 31, 279, 280, 281, 282, 283, 284, 422, 423, 424, 382, 383, 384, 385, 386, 387, 388, 389, 32, 335, 336, 337, 338, 288, 289, 290, 291, 292, 293, 294, 390, 391, 392, 393, 394, 395, 396, 397, 425, 285, 286, 287, 398, 399, 400, 401, 339, 340, 341, 447, 448, 449, 450, 324, 707, 708, 709, 710, 666, 667, 668, 669, 670, 671, 672, 673, 674, 675, 700, 701, 702, 703, 704, 705, 706] (by decide +kernel) (by decide +kernel)
set_option maxRecDepth 20000 in
theorem gL_law_X4_lend : GoodIn wsL_law (wsV RL 65 RX4 yX4_lend wsX4_lend) := goodIn_app (goodIn_of _ (by decide +kernel)) ggL_law_X4_lend
set_option maxRecDepth 20000 in
theorem ggL_law_X5_lend : GoodIn wsL_law wsX5_lend := goodIn_r _ [454, 45, 134, 196, 197, 198, 5, 199, 142, 143, 144, 430, 431, 432, 433, 301, 302, 303, 304, 313, 314, 315, 316, 136, 317, 318, 319, 406, 407, 408, 409, 207, 208, 209, 210, 200, 201, 202, 203, 204, 205, 206, 44, 357, 358, 359, 360, 130, 361, 362, 363, 364, 365, 366, 367, 455, 456, 457, 676, 677, 678, 679, 680, 681, 682, 683, 684, 685, 686, 687, 688, 689, 690, 691, 692, 693, 694, 695, 696, 697, 698, 699] (by decide +kernel) (by decide +kernel)
set_option maxRecDepth 20000 in
theorem gL_law_X5_lend : GoodIn wsL_law (wsV RL 68 RX5 yX5_lend wsX5_lend) := goodIn_app (goodIn_of _ (by decide +kernel)) ggL_law_X5_lend
set_option maxRecDepth 20000 in
theorem ggL_law_X4_least : GoodIn wsL_law wsX4_least := goodIn_r _ [461, 60, 21, 106, 257, 258, 259, 2, 260, 105, 261, 20, 262, 263, 264, 111, 112, 113, 265, 266, 267, 268, 269, 270, 29, 271, 272, 273, 274, 275, 116, 117, 118, 119, 13, 181, 23, 182, 183, 184, 185, 186, 187, 276, 277, 278, 31, 279, 280, 281, 282, 283, 284, 462, 463, 464, 465, 466, 422, 423, 424, 382, 383, 384, 385, 386, 387, 388, 389, 32, 335, 336, 337, 338, 288, 289, 290, 291, 292, 293, 294, 390, 391, 392, 393, 394, 395, 396, 397, 425, 285, 286, 287, 398, 399, 400, 401, 467, 339, 340, 341, 666, 667, 668, 669, 670, 671, 672, 673, 674, 675, 707, 708, 709, 710, 700, 701, 702, 703, 704, 705, 706] (by decide +kernel) (by decide +kernel)
set_option maxRecDepth 20000 in
theorem gL_law_X4_least : GoodIn wsL_law (wsV RL 69 RX4 yX4_least wsX4_least) := goodIn_app (goodIn_of _ (by decide +kernel)) ggL_law_X4_least
set_option maxRecDepth 20000 in
theorem ggL_law_X5_least : GoodIn wsL_law wsX5_least := goodIn_r _ [471, 134, 136, 46, 132, 45, 142, 143, 5, 144, 472, 473, 474, 475, 127, 430, 431, 432, 433, 301, 302, 303, 304, 313, 314, 315, 316, 317, 318, 319, 406, 407, 408, 409, 207, 208, 209, 210, 200, 201, 202, 203, 204, 205, 206, 44, 357, 358, 359, 360, 130, 361, 362, 363, 364, 365, 366, 367, 676, 677, 678, 679, 680, 681, 682, 683, 684, 685, 686, 687, 688, 689, 690, 691, 692, 693, 694, 695, 696, 697, 698, 699] (by decide +kernel) (by decide +kernel)
set_option maxRecDepth 20000 in
theorem gL_law_X5_least : GoodIn wsL_law (wsV RL 72 RX5 yX5_least wsX5_least) := goodIn_app (goodIn_of _ (by decide +kernel)) ggL_law_X5_least
set_option maxRecDepth 20000 in
theorem ggL_law_X4_reading : GoodIn wsL_law wsX4_reading := goodIn_r _ [479, 60, 107, 15, 375, 376, 377, 2, 378, 666, 667, 668, 669, 670, 671, 672, 673, 674, 675] (by decide +kernel) (by decide +kernel)
set_option maxRecDepth 20000 in
theorem gL_law_X4_reading : GoodIn wsL_law (wsV RL 73 RX4 yX4_reading wsX4_reading) := goodIn_app (goodIn_of _ (by decide +kernel)) ggL_law_X4_reading
set_option maxRecDepth 20000 in
theorem ggL_law_X5_reading : GoodIn wsL_law wsX5_reading := goodIn_r _ [483, 134, 137, 50, 301, 302, 303, 5, 304, 142, 143, 144, 676, 677, 678, 679, 680, 681, 682, 683, 684, 685, 686, 687, 688, 689, 690, 691, 692, 693, 694, 695, 696, 697, 698, 699] (by decide +kernel) (by decide +kernel)
set_option maxRecDepth 20000 in
theorem gL_law_X5_reading : GoodIn wsL_law (wsV RL 76 RX5 yX5_reading wsX5_reading) := goodIn_app (goodIn_of _ (by decide +kernel)) ggL_law_X5_reading
set_option maxRecDepth 20000 in
theorem ggL_law_X4_back : GoodIn wsL_law wsX4_back := goodIn_r _ [487, 107, 666, 667, 668, 669, 670, 671, 672, 673, 674, 675] (by decide +kernel) (by decide +kernel)
set_option maxRecDepth 20000 in
theorem gL_law_X4_back : GoodIn wsL_law (wsV RL 77 RX4 yX4_back wsX4_back) := goodIn_app (goodIn_of _ (by decide +kernel)) ggL_law_X4_back
set_option maxRecDepth 20000 in
theorem ggL_law_X5_back : GoodIn wsL_law wsX5_back := goodIn_r _ [491, 137, 142, 143, 5, 144, 676, 677, 678, 679, 680, 681, 682, 683, 684, 685, 686, 687, 688, 689, 690, 691, 692, 693, 694, 695, 696, 697, 698, 699] (by decide +kernel) (by decide +kernel)
set_option maxRecDepth 20000 in
theorem gL_law_X5_back : GoodIn wsL_law (wsV RL 80 RX5 yX5_back wsX5_back) := goodIn_app (goodIn_of _ (by decide +kernel)) ggL_law_X5_back
set_option maxRecDepth 20000 in
theorem ggL_law_X4_tickets : GoodIn wsL_law wsX4_tickets := goodIn_r _ [495, 21, 116, 117, 118, 2, 119, 60, 13, 257, 258, 259, 260, 105, 261, 20, 262, 263, 264, 111, 112, 113, 265, 266, 267, 268, 269, 270, 29, 271, 272, 273, 274, 275, 181, 23, 182, 183, 184, 185, 186, 187, 276, 277, 278, 31, 279, 280, 281, 282, 283, 284, 447, 496, 497, 498, 499, 107, 15, 500, 501, 502, 394, 395, 396, 397, 331, 332, 333, 334, 288, 289, 290, 291, 292, 293, 294, 335, 336, 337, 338, 666, 667, 668, 669, 670, 671, 672, 673, 674, 675, 707, 708, 709, 710, 700, 701, 702, 703, 704, 705, 706] (by decide +kernel) (by decide +kernel)
set_option maxRecDepth 20000 in
theorem gL_law_X4_tickets : GoodIn wsL_law (wsV RL 81 RX4 yX4_tickets wsX4_tickets) := goodIn_app (goodIn_of _ (by decide +kernel)) ggL_law_X4_tickets
set_option maxRecDepth 20000 in
theorem ggL_law_X5_tickets : GoodIn wsL_law wsX5_tickets := goodIn_r _ [506, 45, 196, 197, 198, 5, 199, 134, 142, 143, 144, 507, 508, 509, 510, 137, 50, 406, 407, 408, 409, 301, 302, 303, 304, 207, 208, 209, 210, 200, 201, 202, 203, 204, 205, 206, 44, 357, 358, 359, 360, 130, 361, 362, 363, 317, 318, 319, 676, 677, 678, 679, 680, 681, 682, 683, 684, 685, 686, 687, 688, 689, 690, 691, 692, 693, 694, 695, 696, 697, 698, 699] (by decide +kernel) (by decide +kernel)
set_option maxRecDepth 20000 in
theorem gL_law_X5_tickets : GoodIn wsL_law (wsV RL 84 RX5 yX5_tickets wsX5_tickets) := goodIn_app (goodIn_of _ (by decide +kernel)) ggL_law_X5_tickets
set_option maxRecDepth 20000 in
theorem ggL_law_X4_kinds : GoodIn wsL_law wsX4_kinds := goodIn_r _ [514, 21, 116, 117, 118, 2, 119, 60, 13, 257, 258, 259, 260, 105, 261, 20, 262, 263, 264, 111, 112, 113, 265, 266, 267, 268, 269, 270, 29, 271, 272, 273, 274, 275, 181, 23, 182, 183, 184, 185, 186, 187, 276, 277, 278, 31, 279, 280, 281, 282, 283, 284, 447, 496, 497, 498, 499, 107, 15, 500, 501, 502, 394, 395, 396, 397, 331, 332, 333, 334, 288, 289, 290, 291, 292, 293, 294, 335, 336, 337, 338, 666, 667, 668, 669, 670, 671, 672, 673, 674, 675, 707, 708, 709, 710, 700, 701, 702, 703, 704, 705, 706] (by decide +kernel) (by decide +kernel)
set_option maxRecDepth 20000 in
theorem gL_law_X4_kinds : GoodIn wsL_law (wsV RL 85 RX4 yX4_kinds wsX4_kinds) := goodIn_app (goodIn_of _ (by decide +kernel)) ggL_law_X4_kinds
set_option maxRecDepth 20000 in
theorem ggL_law_X5_kinds : GoodIn wsL_law wsX5_kinds := goodIn_r _ [518, 44, 196, 197, 198, 5, 199, 134, 142, 143, 144, 507, 508, 509, 510, 137, 50, 406, 407, 408, 409, 301, 302, 303, 304, 207, 208, 209, 210, 200, 201, 202, 203, 204, 205, 206, 45, 357, 358, 359, 360, 130, 361, 362, 363, 317, 318, 319, 676, 677, 678, 679, 680, 681, 682, 683, 684, 685, 686, 687, 688, 689, 690, 691, 692, 693, 694, 695, 696, 697, 698, 699] (by decide +kernel) (by decide +kernel)
set_option maxRecDepth 20000 in
theorem gL_law_X5_kinds : GoodIn wsL_law (wsV RL 88 RX5 yX5_kinds wsX5_kinds) := goodIn_app (goodIn_of _ (by decide +kernel)) ggL_law_X5_kinds
set_option maxRecDepth 20000 in
theorem ggL_law_X4_counts : GoodIn wsL_law wsX4_counts := goodIn_r _ [522, 60, 21, 257, 258, 259, 2, 260, 105, 261, 20, 262, 263, 264, 111, 112, 113, 265, 266, 267, 268, 269, 270, 29, 271, 272, 273, 274, 275, 116, 117, 118, 119, 13, 181, 23, 182, 183, 184, 185, 186, 187, 276, 277, 278, 31, 279, 280, 281, 282, 283, 284, 496, 497, 498, 499, 107, 15, 500, 501, 502, 394, 395, 396, 397, 331, 332, 333, 334, 288, 289, 290, 291, 292, 293, 294, 335, 336, 337, 338, 666, 667, 668, 669, 670, 671, 672, 673, 674, 675, 707, 708, 709, 710, 700, 701, 702, 703, 704, 705, 706] (by decide +kernel) (by decide +kernel)
set_option maxRecDepth 20000 in
theorem gL_law_X4_counts : GoodIn wsL_law (wsV RL 89 RX4 yX4_counts wsX4_counts) := goodIn_app (goodIn_of _ (by decide +kernel)) ggL_law_X4_counts
set_option maxRecDepth 20000 in
theorem ggL_law_X5_counts : GoodIn wsL_law wsX5_counts := goodIn_r _ [526, 134, 130, 507, 508, 509, 5, 510, 137, 50, 406, 407, 408, 409, 301, 302, 303, 304, 207, 208, 209, 210, 200, 201, 202, 203, 204, 205, 206, 45, 44, 357, 358, 359, 360, 361, 362, 363, 317, 318, 319, 676, 677, 678, 679, 680, 681, 682, 683, 684, 685, 686, 687, 688, 689, 690, 691, 692, 693, 694, 695, 696, 697, 698, 699] (by decide +kernel) (by decide +kernel)
set_option maxRecDepth 20000 in
theorem gL_law_X5_counts : GoodIn wsL_law (wsV RL 93 RX5 yX5_counts wsX5_counts) := goodIn_app (goodIn_of _ (by decide +kernel)) ggL_law_X5_counts
set_option maxRecDepth 20000 in
theorem ggL_law_X4_sheet : GoodIn wsL_law wsX4_sheet := goodIn_r _ [530, 59, 71, 72, 73, 2, 74, 17, 61, 62, 63, 64, 65, 66, 82, 83, 84, 85, 531, 25, 532, 533, 534, 535, 39, 536, 111, 112, 113, 537, 266, 267, 81, 666, 667, 668, 669, 670, 671, 672, 673, 674, 675, 711, 712, 713, 714] (by decide +kernel) (by decide +kernel)
set_option maxRecDepth 20000 in
theorem gL_law_X4_sheet : GoodIn wsL_law (wsV RL 94 RX4 yX4_sheet wsX4_sheet) := goodIn_app (goodIn_of _ (by decide +kernel)) ggL_law_X4_sheet
set_option maxRecDepth 20000 in
theorem ggL_law_X5_sheet : GoodIn wsL_law wsX5_sheet := goodIn_r _ [541, 127, 51, 52, 53, 138, 139, 5, 140, 141, 142, 143, 144, 145, 146, 147, 148, 149, 154, 155, 156, 157, 676, 677, 678, 679, 680, 681, 682, 683, 684, 685, 686, 687, 688, 689, 690, 691, 692, 693, 694, 695, 696, 697, 698, 699] (by decide +kernel) (by decide +kernel)
set_option maxRecDepth 20000 in
theorem gL_law_X5_sheet : GoodIn wsL_law (wsV RL 97 RX5 yX5_sheet wsX5_sheet) := goodIn_app (goodIn_of _ (by decide +kernel)) ggL_law_X5_sheet
set_option maxRecDepth 20000 in
theorem ggL_law_X4_lose : GoodIn wsL_law wsX4_lose := goodIn_r _ [545, 61, 62, 2, 63, 67, 68, 69, 70, 71, 72, 73, 74, 17, 546, 25, 547, 548, 534, 711, 712, 713, 714, 666, 667, 668, 669, 670, 671, 672, 673, 674, 675] (by decide +kernel) (by decide +kernel)
set_option maxRecDepth 20000 in
theorem gL_law_X4_lose : GoodIn wsL_law (wsV RL 98 RX4 yX4_lose wsX4_lose) := goodIn_app (goodIn_of _ (by decide +kernel)) ggL_law_X4_lose
set_option maxRecDepth 20000 in
theorem ggL_law_X5_lose : GoodIn wsL_law wsX5_lose := goodIn_r _ [552, 51, 138, 139, 5, 140, 141, 142, 143, 144, 676, 677, 678, 679, 680, 681, 682, 683, 684, 685, 686, 687, 688, 689, 690, 691, 692, 693, 694, 695, 696, 697, 698, 699] (by decide +kernel) (by decide +kernel)
set_option maxRecDepth 20000 in
theorem gL_law_X5_lose : GoodIn wsL_law (wsV RL 101 RX5 yX5_lose wsX5_lose) := goodIn_app (goodIn_of _ (by decide +kernel)) ggL_law_X5_lose
set_option maxRecDepth 20000 in
theorem ggL_law_X4_put : GoodIn wsL_law wsX4_put := goodIn_r _ [556, 59, 61, 62, 2, 63, 67, 68, 69, 70, 71, 72, 73, 74, 17, 82, 83, 84, 85, 78, 25, 79, 80, 81, 557, 558, 559, 39, 560, 561, 562, 563, 535, 666, 667, 668, 669, 670, 671, 672, 673, 674, 675, 711, 712, 713, 714] (by decide +kernel) (by decide +kernel)
set_option maxRecDepth 20000 in
theorem gL_law_X4_put : GoodIn wsL_law (wsV RL 102 RX4 yX4_put wsX4_put) := goodIn_app (goodIn_of _ (by decide +kernel)) ggL_law_X4_put
set_option maxRecDepth 20000 in
theorem ggL_law_X5_put : GoodIn wsL_law wsX5_put := goodIn_r _ [567, 53, 52, 138, 139, 5, 140, 141, 142, 143, 144, 145, 146, 147, 148, 149, 568, 569, 570, 571, 51, 154, 155, 156, 157, 676, 677, 678, 679, 680, 681, 682, 683, 684, 685, 686, 687, 688, 689, 690, 691, 692, 693, 694, 695, 696, 697, 698, 699] (by decide +kernel) (by decide +kernel)
set_option maxRecDepth 20000 in
theorem gL_law_X5_put : GoodIn wsL_law (wsV RL 105 RX5 yX5_put wsX5_put) := goodIn_app (goodIn_of _ (by decide +kernel)) ggL_law_X5_put
set_option maxRecDepth 20000 in
theorem ggL_law_X4_cell : GoodIn wsL_law wsX4_cell := goodIn_r _ [575, 59, 324, 61, 62, 2, 63, 64, 65, 66, 67, 68, 69, 70, 71, 72, 73, 74, 17, 75, 76, 77, 78, 25, 79, 80, 81, 89, 90, 91, 39, 666, 667, 668, 669, 670, 671, 672, 673, 674, 675, 711, 712, 713, 714] (by decide +kernel) (by decide +kernel)
set_option maxRecDepth 20000 in
theorem gL_law_X4_cell : GoodIn wsL_law (wsV RL 106 RX4 yX4_cell wsX4_cell) := goodIn_app (goodIn_of _ (by decide +kernel)) ggL_law_X4_cell
set_option maxRecDepth 20000 in
theorem ggL_law_X5_cell : GoodIn wsL_law wsX5_cell := goodIn_r _ [579, 149, 127, 51, 52, 53, 138, 139, 5, 140, 141, 142, 143, 144, 349, 350, 351, 352, 580, 581, 582, 583, 568, 569, 570, 571, 676, 677, 678, 679, 680, 681, 682, 683, 684, 685, 686, 687, 688, 689, 690, 691, 692, 693, 694, 695, 696, 697, 698, 699] (by decide +kernel) (by decide +kernel)
set_option maxRecDepth 20000 in
theorem gL_law_X5_cell : GoodIn wsL_law (wsV RL 110 RX5 yX5_cell wsX5_cell) := goodIn_app (goodIn_of _ (by decide +kernel)) ggL_law_X5_cell
set_option maxRecDepth 20000 in
theorem ggL_law_X4_copy : GoodIn wsL_law wsX4_copy := goodIn_r _ [587, 59, 588, 589, 590, 591, 61, 62, 2, 63, 67, 68, 69, 70, 71, 72, 73, 74, 17, 82, 83, 84, 85, 78, 25, 79, 80, 81, 666, 667, 668, 669, 670, 671, 672, 673, 674, 675, 711, 712, 713, 714] (by decide +kernel) (by decide +kernel)
set_option maxRecDepth 20000 in
theorem gL_law_X4_copy : GoodIn wsL_law (wsV RL 111 RX4 yX4_copy wsX4_copy) := goodIn_app (goodIn_of _ (by decide +kernel)) ggL_law_X4_copy
set_option maxRecDepth 20000 in
theorem ggL_law_X5_copy : GoodIn wsL_law wsX5_copy := goodIn_r _ [595, 51, 52, 54, 53, 138, 139, 5, 140, 141, 142, 143, 144, 145, 146, 147, 148, 149, 154, 155, 156, 157, 158, 159, 160, 676, 677, 678, 679, 680, 681, 682, 683, 684, 685, 686, 687, 688, 689, 690, 691, 692, 693, 694, 695, 696, 697, 698, 699] (by decide +kernel) (by decide +kernel)
set_option maxRecDepth 20000 in
theorem gL_law_X5_copy : GoodIn wsL_law (wsV RL 114 RX5 yX5_copy wsX5_copy) := goodIn_app (goodIn_of _ (by decide +kernel)) ggL_law_X5_copy
set_option maxRecDepth 20000 in
theorem ggL_law_X4_tell : GoodIn wsL_law wsX4_tell := goodIn_r _ [599, 116, 117, 118, 2, 119, 60, 13, 600, 601, 602, 603, 604, 605, 606, 607, 608, 609, 610, 611, 612, 613, 614, 615, 616, 707, 708, 709, 710, 666, 667, 668, 669, 670, 671, 672, 673, 674, 675] (by decide +kernel) (by decide +kernel)
set_option maxRecDepth 20000 in
theorem gL_law_X4_tell : GoodIn wsL_law (wsV RL 115 RX4 yX4_tell wsX4_tell) := goodIn_app (goodIn_of _ (by decide +kernel)) ggL_law_X4_tell
set_option maxRecDepth 20000 in
theorem ggL_law_X5_tell : GoodIn wsL_law wsX5_tell := goodIn_r _ [620, 44, 45, 196, 197, 198, 5, 199, 134, 142, 143, 144, 621, 622, 623, 624, 625, 676, 677, 678, 679, 680, 681, 682, 683, 684, 685, 686, 687, 688, 689, 690, 691, 692, 693, 694, 695, 696, 697, 698, 699] (by decide +kernel) (by decide +kernel)
set_option maxRecDepth 20000 in
theorem gL_law_X5_tell : GoodIn wsL_law (wsV RL 118 RX5 yX5_tell wsX5_tell) := goodIn_app (goodIn_of _ (by decide +kernel)) ggL_law_X5_tell
set_option maxRecDepth 20000 in
theorem ggL_law_X4_call : GoodIn wsL_law wsX4_call := goodIn_r _ [629, 116, 117, 118, 2, 119, 60, 13, 604, 605, 606, 607, 608, 707, 708, 709, 710, 666, 667, 668, 669, 670, 671, 672, 673, 674, 675] (by decide +kernel) (by decide +kernel)
set_option maxRecDepth 20000 in
theorem gL_law_X4_call : GoodIn wsL_law (wsV RL 119 RX4 yX4_call wsX4_call) := goodIn_app (goodIn_of _ (by decide +kernel)) ggL_law_X4_call
set_option maxRecDepth 20000 in
theorem ggL_law_X5_call : GoodIn wsL_law wsX5_call := goodIn_r _ [633, 44, 196, 197, 198, 5, 199, 134, 142, 143, 144, 621, 622, 623, 624, 625, 676, 677, 678, 679, 680, 681, 682, 683, 684, 685, 686, 687, 688, 689, 690, 691, 692, 693, 694, 695, 696, 697, 698, 699] (by decide +kernel) (by decide +kernel)
set_option maxRecDepth 20000 in
theorem gL_law_X5_call : GoodIn wsL_law (wsV RL 122 RX5 yX5_call wsX5_call) := goodIn_app (goodIn_of _ (by decide +kernel)) ggL_law_X5_call
set_option maxRecDepth 20000 in
theorem ggL_law_X4_as : GoodIn wsL_law wsX4_as := goodIn_r _ [637, 59, 116, 117, 118, 2, 119, 60, 13, 82, 83, 84, 85, 666, 667, 668, 669, 670, 671, 672, 673, 674, 675, 707, 708, 709, 710] (by decide +kernel) (by decide +kernel)
set_option maxRecDepth 20000 in
theorem gL_law_X4_as : GoodIn wsL_law (wsV RL 123 RX4 yX4_as wsX4_as) := goodIn_app (goodIn_of _ (by decide +kernel)) ggL_law_X4_as
set_option maxRecDepth 20000 in
theorem ggL_law_X5_as : GoodIn wsL_law wsX5_as := goodIn_r _ [641, 127, 44, 196, 197, 198, 5, 199, 134, 142, 143, 144, 145, 146, 147, 148, 149, 154, 155, 156, 157, 676, 677, 678, 679, 680, 681, 682, 683, 684, 685, 686, 687, 688, 689, 690, 691, 692, 693, 694, 695, 696, 697, 698, 699] (by decide +kernel) (by decide +kernel)
set_option maxRecDepth 20000 in
theorem gL_law_X5_as : GoodIn wsL_law (wsV RL 126 RX5 yX5_as wsX5_as) := goodIn_app (goodIn_of _ (by decide +kernel)) ggL_law_X5_as
set_option maxRecDepth 20000 in
theorem ggL_law_X4_trace : GoodIn wsL_law wsX4_trace := goodIn_r _ [645, 608, 666, 667, 668, 669, 670, 671, 672, 673, 674, 675] (by decide +kernel) (by decide +kernel)
set_option maxRecDepth 20000 in
theorem gL_law_X4_trace : GoodIn wsL_law (wsV RL 127 RX4 yX4_trace wsX4_trace) := goodIn_app (goodIn_of _ (by decide +kernel)) ggL_law_X4_trace
set_option maxRecDepth 20000 in
theorem ggL_law_X5_trace : GoodIn wsL_law wsX5_trace := goodIn_r _ [649, 625, 676, 677, 678, 679, 680, 681, 682, 683, 684, 685, 686, 687, 688, 689, 690, 691, 692, 693, 694, 695, 696, 697, 698, 699] (by decide +kernel) (by decide +kernel)
set_option maxRecDepth 20000 in
theorem gL_law_X5_trace : GoodIn wsL_law (wsV RL 130 RX5 yX5_trace wsX5_trace) := goodIn_app (goodIn_of _ (by decide +kernel)) ggL_law_X5_trace
set_option maxRecDepth 20000 in
theorem ggL_law_X4_fault : GoodIn wsL_law wsX4_fault := goodIn_r _ [653, 59, 666, 667, 668, 669, 670, 671, 672, 673, 674, 675] (by decide +kernel) (by decide +kernel)
set_option maxRecDepth 20000 in
theorem gL_law_X4_fault : GoodIn wsL_law (wsV RL 131 RX4 yX4_fault wsX4_fault) := goodIn_app (goodIn_of _ (by decide +kernel)) ggL_law_X4_fault
set_option maxRecDepth 20000 in
theorem ggL_law_X5_fault : GoodIn wsL_law wsX5_fault := goodIn_r _ [657, 149, 676, 677, 678, 679, 680, 681, 682, 683, 684, 685, 686, 687, 688, 689, 690, 691, 692, 693, 694, 695, 696, 697, 698, 699] (by decide +kernel) (by decide +kernel)
set_option maxRecDepth 20000 in
theorem gL_law_X5_fault : GoodIn wsL_law (wsV RL 134 RX5 yX5_fault wsX5_fault) := goodIn_app (goodIn_of _ (by decide +kernel)) ggL_law_X5_fault
set_option maxRecDepth 20000 in
theorem ggL_law_X4_many : GoodIn wsL_law wsX4_many := goodIn_r _ [661, 60, 105, 106, 107, 188, 189, 190, 2, 191, 116, 117, 118, 119, 13, 181, 23, 182, 183, 184, 185, 186, 187, 666, 667, 668, 669, 670, 671, 672, 673, 674, 675, 707, 708, 709, 710] (by decide +kernel) (by decide +kernel)
set_option maxRecDepth 20000 in
theorem gL_law_X4_many : GoodIn wsL_law (wsV RL 135 RX4 yX4_many wsX4_many) := goodIn_app (goodIn_of _ (by decide +kernel)) ggL_law_X4_many
set_option maxRecDepth 20000 in
theorem ggL_law_X5_many : GoodIn wsL_law wsX5_many := goodIn_r _ [665, 134, 130, 132, 137, 301, 302, 303, 5, 304, 207, 208, 209, 210, 200, 201, 202, 203, 204, 205, 206, 45, 44, 676, 677, 678, 679, 680, 681, 682, 683, 684, 685, 686, 687, 688, 689, 690, 691, 692, 693, 694, 695, 696, 697, 698, 699] (by decide +kernel) (by decide +kernel)
set_option maxRecDepth 20000 in
theorem gL_law_X5_many : GoodIn wsL_law (wsV RL 138 RX5 yX5_many wsX5_many) := goodIn_app (goodIn_of _ (by decide +kernel)) ggL_law_X5_many
theorem dL_law_0 : decode cL_law 0 = .ok (.new 7, 3) := by decide +kernel
theorem dL_law_3 : decode cL_law 3 = .ok (.dup, 1) := by decide +kernel
theorem dL_law_4 : decode cL_law 4 = .ok (.invokespecial 9, 3) := by decide +kernel
theorem dL_law_7 : decode cL_law 7 = .ok (.astore_n 1, 1) := by decide +kernel
theorem dL_law_8 : decode cL_law 8 = .ok (.new 10, 3) := by decide +kernel
theorem dL_law_11 : decode cL_law 11 = .ok (.dup, 1) := by decide +kernel
theorem dL_law_12 : decode cL_law 12 = .ok (.invokespecial 12, 3) := by decide +kernel
theorem dL_law_15 : decode cL_law 15 = .ok (.astore_n 2, 1) := by decide +kernel
theorem dL_law_16 : decode cL_law 16 = .ok (.iconst 0, 1) := by decide +kernel
theorem dL_law_17 : decode cL_law 17 = .ok (.istore_n 3, 1) := by decide +kernel
theorem dL_law_18 : decode cL_law 18 = .ok (.iload_n 3, 1) := by decide +kernel
theorem dL_law_19 : decode cL_law 19 = .ok (.aload_n 0, 1) := by decide +kernel
theorem dL_law_20 : decode cL_law 20 = .ok (.arraylength, 1) := by decide +kernel
theorem dL_law_21 : decode cL_law 21 = .ok (.bipush 6, 2) := by decide +kernel
theorem dL_law_23 : decode cL_law 23 = .ok (.isub, 1) := by decide +kernel
theorem dL_law_24 : decode cL_law 24 = .ok (.if_icmp .gt 1044, 3) := by decide +kernel
theorem dL_law_27 : decode cL_law 27 = .ok (.aload_n 0, 1) := by decide +kernel
theorem dL_law_28 : decode cL_law 28 = .ok (.iload_n 3, 1) := by decide +kernel
theorem dL_law_29 : decode cL_law 29 = .ok (.iaload, 1) := by decide +kernel
theorem dL_law_30 : decode cL_law 30 = .ok (.bipush 31, 2) := by decide +kernel
theorem dL_law_32 : decode cL_law 32 = .ok (.iand, 1) := by decide +kernel
theorem dL_law_33 : decode cL_law 33 = .ok (.tableswitch 1029 0 28 #[131, 184, 217, 240, 263, 312, 375, 409, 443, 467, 491, 534, 557, 580, 603, 626, 649, 672, 685, 728, 751, 794, 838, 901, 924, 947, 980, 993, 1006], 131) := by decide +kernel
theorem dL_law_164 : decode cL_law 164 = .ok (.aload_n 1, 1) := by decide +kernel
theorem dL_law_165 : decode cL_law 165 = .ok (.aload_n 0, 1) := by decide +kernel
theorem dL_law_166 : decode cL_law 166 = .ok (.iload_n 3, 1) := by decide +kernel
theorem dL_law_167 : decode cL_law 167 = .ok (.iconst 1, 1) := by decide +kernel
theorem dL_law_168 : decode cL_law 168 = .ok (.iadd, 1) := by decide +kernel
theorem dL_law_169 : decode cL_law 169 = .ok (.iaload, 1) := by decide +kernel
theorem dL_law_170 : decode cL_law 170 = .ok (.aload_n 0, 1) := by decide +kernel
theorem dL_law_171 : decode cL_law 171 = .ok (.iload_n 3, 1) := by decide +kernel
theorem dL_law_172 : decode cL_law 172 = .ok (.iconst 2, 1) := by decide +kernel
theorem dL_law_173 : decode cL_law 173 = .ok (.iadd, 1) := by decide +kernel
theorem dL_law_174 : decode cL_law 174 = .ok (.iaload, 1) := by decide +kernel
theorem dL_law_175 : decode cL_law 175 = .ok (.aload_n 0, 1) := by decide +kernel
theorem dL_law_176 : decode cL_law 176 = .ok (.iload_n 3, 1) := by decide +kernel
theorem dL_law_177 : decode cL_law 177 = .ok (.iconst 3, 1) := by decide +kernel
theorem dL_law_178 : decode cL_law 178 = .ok (.iadd, 1) := by decide +kernel
theorem dL_law_179 : decode cL_law 179 = .ok (.iaload, 1) := by decide +kernel
theorem dL_law_180 : decode cL_law 180 = .ok (.aload_n 0, 1) := by decide +kernel
theorem dL_law_181 : decode cL_law 181 = .ok (.iload_n 3, 1) := by decide +kernel
theorem dL_law_182 : decode cL_law 182 = .ok (.iconst 4, 1) := by decide +kernel
theorem dL_law_183 : decode cL_law 183 = .ok (.iadd, 1) := by decide +kernel
theorem dL_law_184 : decode cL_law 184 = .ok (.iaload, 1) := by decide +kernel
theorem dL_law_185 : decode cL_law 185 = .ok (.invokevirtual 13, 3) := by decide +kernel
theorem dL_law_188 : decode cL_law 188 = .ok (.aload_n 2, 1) := by decide +kernel
theorem dL_law_189 : decode cL_law 189 = .ok (.aload_n 0, 1) := by decide +kernel
theorem dL_law_190 : decode cL_law 190 = .ok (.iload_n 3, 1) := by decide +kernel
theorem dL_law_191 : decode cL_law 191 = .ok (.iconst 1, 1) := by decide +kernel
theorem dL_law_192 : decode cL_law 192 = .ok (.iadd, 1) := by decide +kernel
theorem dL_law_193 : decode cL_law 193 = .ok (.iaload, 1) := by decide +kernel
theorem dL_law_194 : decode cL_law 194 = .ok (.aload_n 0, 1) := by decide +kernel
theorem dL_law_195 : decode cL_law 195 = .ok (.iload_n 3, 1) := by decide +kernel
theorem dL_law_196 : decode cL_law 196 = .ok (.iconst 2, 1) := by decide +kernel
theorem dL_law_197 : decode cL_law 197 = .ok (.iadd, 1) := by decide +kernel
theorem dL_law_198 : decode cL_law 198 = .ok (.iaload, 1) := by decide +kernel
theorem dL_law_199 : decode cL_law 199 = .ok (.aload_n 0, 1) := by decide +kernel
theorem dL_law_200 : decode cL_law 200 = .ok (.iload_n 3, 1) := by decide +kernel
theorem dL_law_201 : decode cL_law 201 = .ok (.iconst 3, 1) := by decide +kernel
theorem dL_law_202 : decode cL_law 202 = .ok (.iadd, 1) := by decide +kernel
theorem dL_law_203 : decode cL_law 203 = .ok (.iaload, 1) := by decide +kernel
theorem dL_law_204 : decode cL_law 204 = .ok (.aload_n 0, 1) := by decide +kernel
theorem dL_law_205 : decode cL_law 205 = .ok (.iload_n 3, 1) := by decide +kernel
theorem dL_law_206 : decode cL_law 206 = .ok (.iconst 4, 1) := by decide +kernel
theorem dL_law_207 : decode cL_law 207 = .ok (.iadd, 1) := by decide +kernel
theorem dL_law_208 : decode cL_law 208 = .ok (.iaload, 1) := by decide +kernel
theorem dL_law_209 : decode cL_law 209 = .ok (.invokevirtual 17, 3) := by decide +kernel
theorem dL_law_212 : decode cL_law 212 = .ok (.if_icmp .eq 850, 3) := by decide +kernel
theorem dL_law_215 : decode cL_law 215 = .ok (.iconst 0, 1) := by decide +kernel
theorem dL_law_216 : decode cL_law 216 = .ok (.ireturn, 1) := by decide +kernel
theorem dL_law_217 : decode cL_law 217 = .ok (.aload_n 1, 1) := by decide +kernel
theorem dL_law_218 : decode cL_law 218 = .ok (.aload_n 0, 1) := by decide +kernel
theorem dL_law_219 : decode cL_law 219 = .ok (.iload_n 3, 1) := by decide +kernel
theorem dL_law_220 : decode cL_law 220 = .ok (.iconst 1, 1) := by decide +kernel
theorem dL_law_221 : decode cL_law 221 = .ok (.iadd, 1) := by decide +kernel
theorem dL_law_222 : decode cL_law 222 = .ok (.iaload, 1) := by decide +kernel
theorem dL_law_223 : decode cL_law 223 = .ok (.aload_n 0, 1) := by decide +kernel
theorem dL_law_224 : decode cL_law 224 = .ok (.iload_n 3, 1) := by decide +kernel
theorem dL_law_225 : decode cL_law 225 = .ok (.iconst 2, 1) := by decide +kernel
theorem dL_law_226 : decode cL_law 226 = .ok (.iadd, 1) := by decide +kernel
theorem dL_law_227 : decode cL_law 227 = .ok (.iaload, 1) := by decide +kernel
theorem dL_law_228 : decode cL_law 228 = .ok (.invokevirtual 18, 3) := by decide +kernel
theorem dL_law_231 : decode cL_law 231 = .ok (.aload_n 2, 1) := by decide +kernel
theorem dL_law_232 : decode cL_law 232 = .ok (.aload_n 0, 1) := by decide +kernel
theorem dL_law_233 : decode cL_law 233 = .ok (.iload_n 3, 1) := by decide +kernel
theorem dL_law_234 : decode cL_law 234 = .ok (.iconst 1, 1) := by decide +kernel
theorem dL_law_235 : decode cL_law 235 = .ok (.iadd, 1) := by decide +kernel
theorem dL_law_236 : decode cL_law 236 = .ok (.iaload, 1) := by decide +kernel
theorem dL_law_237 : decode cL_law 237 = .ok (.aload_n 0, 1) := by decide +kernel
theorem dL_law_238 : decode cL_law 238 = .ok (.iload_n 3, 1) := by decide +kernel
theorem dL_law_239 : decode cL_law 239 = .ok (.iconst 2, 1) := by decide +kernel
theorem dL_law_240 : decode cL_law 240 = .ok (.iadd, 1) := by decide +kernel
theorem dL_law_241 : decode cL_law 241 = .ok (.iaload, 1) := by decide +kernel
theorem dL_law_242 : decode cL_law 242 = .ok (.invokevirtual 22, 3) := by decide +kernel
theorem dL_law_245 : decode cL_law 245 = .ok (.if_icmp .eq 817, 3) := by decide +kernel
theorem dL_law_248 : decode cL_law 248 = .ok (.iconst 0, 1) := by decide +kernel
theorem dL_law_249 : decode cL_law 249 = .ok (.ireturn, 1) := by decide +kernel
theorem dL_law_250 : decode cL_law 250 = .ok (.aload_n 1, 1) := by decide +kernel
theorem dL_law_251 : decode cL_law 251 = .ok (.aload_n 0, 1) := by decide +kernel
theorem dL_law_252 : decode cL_law 252 = .ok (.iload_n 3, 1) := by decide +kernel
theorem dL_law_253 : decode cL_law 253 = .ok (.iconst 1, 1) := by decide +kernel
theorem dL_law_254 : decode cL_law 254 = .ok (.iadd, 1) := by decide +kernel
theorem dL_law_255 : decode cL_law 255 = .ok (.iaload, 1) := by decide +kernel
theorem dL_law_256 : decode cL_law 256 = .ok (.invokevirtual 23, 3) := by decide +kernel
theorem dL_law_259 : decode cL_law 259 = .ok (.aload_n 2, 1) := by decide +kernel
theorem dL_law_260 : decode cL_law 260 = .ok (.aload_n 0, 1) := by decide +kernel
theorem dL_law_261 : decode cL_law 261 = .ok (.iload_n 3, 1) := by decide +kernel
theorem dL_law_262 : decode cL_law 262 = .ok (.iconst 1, 1) := by decide +kernel
theorem dL_law_263 : decode cL_law 263 = .ok (.iadd, 1) := by decide +kernel
theorem dL_law_264 : decode cL_law 264 = .ok (.iaload, 1) := by decide +kernel
theorem dL_law_265 : decode cL_law 265 = .ok (.invokevirtual 27, 3) := by decide +kernel
theorem dL_law_268 : decode cL_law 268 = .ok (.if_icmp .eq 794, 3) := by decide +kernel
theorem dL_law_271 : decode cL_law 271 = .ok (.iconst 0, 1) := by decide +kernel
theorem dL_law_272 : decode cL_law 272 = .ok (.ireturn, 1) := by decide +kernel
theorem dL_law_273 : decode cL_law 273 = .ok (.aload_n 1, 1) := by decide +kernel
theorem dL_law_274 : decode cL_law 274 = .ok (.aload_n 0, 1) := by decide +kernel
theorem dL_law_275 : decode cL_law 275 = .ok (.iload_n 3, 1) := by decide +kernel
theorem dL_law_276 : decode cL_law 276 = .ok (.iconst 1, 1) := by decide +kernel
theorem dL_law_277 : decode cL_law 277 = .ok (.iadd, 1) := by decide +kernel
theorem dL_law_278 : decode cL_law 278 = .ok (.iaload, 1) := by decide +kernel
theorem dL_law_279 : decode cL_law 279 = .ok (.invokevirtual 28, 3) := by decide +kernel
theorem dL_law_282 : decode cL_law 282 = .ok (.aload_n 2, 1) := by decide +kernel
theorem dL_law_283 : decode cL_law 283 = .ok (.aload_n 0, 1) := by decide +kernel
theorem dL_law_284 : decode cL_law 284 = .ok (.iload_n 3, 1) := by decide +kernel
theorem dL_law_285 : decode cL_law 285 = .ok (.iconst 1, 1) := by decide +kernel
theorem dL_law_286 : decode cL_law 286 = .ok (.iadd, 1) := by decide +kernel
theorem dL_law_287 : decode cL_law 287 = .ok (.iaload, 1) := by decide +kernel
theorem dL_law_288 : decode cL_law 288 = .ok (.invokevirtual 31, 3) := by decide +kernel
theorem dL_law_291 : decode cL_law 291 = .ok (.if_icmp .eq 771, 3) := by decide +kernel
theorem dL_law_294 : decode cL_law 294 = .ok (.iconst 0, 1) := by decide +kernel
theorem dL_law_295 : decode cL_law 295 = .ok (.ireturn, 1) := by decide +kernel
theorem dL_law_296 : decode cL_law 296 = .ok (.aload_n 1, 1) := by decide +kernel
theorem dL_law_297 : decode cL_law 297 = .ok (.aload_n 0, 1) := by decide +kernel
theorem dL_law_298 : decode cL_law 298 = .ok (.iload_n 3, 1) := by decide +kernel
theorem dL_law_299 : decode cL_law 299 = .ok (.iconst 1, 1) := by decide +kernel
theorem dL_law_300 : decode cL_law 300 = .ok (.iadd, 1) := by decide +kernel
theorem dL_law_301 : decode cL_law 301 = .ok (.iaload, 1) := by decide +kernel
theorem dL_law_302 : decode cL_law 302 = .ok (.aload_n 0, 1) := by decide +kernel
theorem dL_law_303 : decode cL_law 303 = .ok (.iload_n 3, 1) := by decide +kernel
theorem dL_law_304 : decode cL_law 304 = .ok (.iconst 2, 1) := by decide +kernel
theorem dL_law_305 : decode cL_law 305 = .ok (.iadd, 1) := by decide +kernel
theorem dL_law_306 : decode cL_law 306 = .ok (.iaload, 1) := by decide +kernel
theorem dL_law_307 : decode cL_law 307 = .ok (.ifCond .eq 7, 3) := by decide +kernel
theorem dL_law_310 : decode cL_law 310 = .ok (.iconst 1, 1) := by decide +kernel
theorem dL_law_311 : decode cL_law 311 = .ok (.goto 4, 3) := by decide +kernel
theorem dL_law_314 : decode cL_law 314 = .ok (.iconst 0, 1) := by decide +kernel
theorem dL_law_315 : decode cL_law 315 = .ok (.invokevirtual 32, 3) := by decide +kernel
theorem dL_law_318 : decode cL_law 318 = .ok (.aload_n 2, 1) := by decide +kernel
theorem dL_law_319 : decode cL_law 319 = .ok (.aload_n 0, 1) := by decide +kernel
theorem dL_law_320 : decode cL_law 320 = .ok (.iload_n 3, 1) := by decide +kernel
theorem dL_law_321 : decode cL_law 321 = .ok (.iconst 1, 1) := by decide +kernel
theorem dL_law_322 : decode cL_law 322 = .ok (.iadd, 1) := by decide +kernel
theorem dL_law_323 : decode cL_law 323 = .ok (.iaload, 1) := by decide +kernel
theorem dL_law_324 : decode cL_law 324 = .ok (.aload_n 0, 1) := by decide +kernel
theorem dL_law_325 : decode cL_law 325 = .ok (.iload_n 3, 1) := by decide +kernel
theorem dL_law_326 : decode cL_law 326 = .ok (.iconst 2, 1) := by decide +kernel
theorem dL_law_327 : decode cL_law 327 = .ok (.iadd, 1) := by decide +kernel
theorem dL_law_328 : decode cL_law 328 = .ok (.iaload, 1) := by decide +kernel
theorem dL_law_329 : decode cL_law 329 = .ok (.ifCond .eq 7, 3) := by decide +kernel
theorem dL_law_332 : decode cL_law 332 = .ok (.iconst 1, 1) := by decide +kernel
theorem dL_law_333 : decode cL_law 333 = .ok (.goto 4, 3) := by decide +kernel
theorem dL_law_336 : decode cL_law 336 = .ok (.iconst 0, 1) := by decide +kernel
theorem dL_law_337 : decode cL_law 337 = .ok (.invokevirtual 36, 3) := by decide +kernel
theorem dL_law_340 : decode cL_law 340 = .ok (.if_icmp .eq 722, 3) := by decide +kernel
theorem dL_law_343 : decode cL_law 343 = .ok (.iconst 0, 1) := by decide +kernel
theorem dL_law_344 : decode cL_law 344 = .ok (.ireturn, 1) := by decide +kernel
theorem dL_law_345 : decode cL_law 345 = .ok (.aload_n 1, 1) := by decide +kernel
theorem dL_law_346 : decode cL_law 346 = .ok (.aload_n 0, 1) := by decide +kernel
theorem dL_law_347 : decode cL_law 347 = .ok (.iload_n 3, 1) := by decide +kernel
theorem dL_law_348 : decode cL_law 348 = .ok (.iconst 1, 1) := by decide +kernel
theorem dL_law_349 : decode cL_law 349 = .ok (.iadd, 1) := by decide +kernel
theorem dL_law_350 : decode cL_law 350 = .ok (.iaload, 1) := by decide +kernel
theorem dL_law_351 : decode cL_law 351 = .ok (.aload_n 0, 1) := by decide +kernel
theorem dL_law_352 : decode cL_law 352 = .ok (.iload_n 3, 1) := by decide +kernel
theorem dL_law_353 : decode cL_law 353 = .ok (.iconst 2, 1) := by decide +kernel
theorem dL_law_354 : decode cL_law 354 = .ok (.iadd, 1) := by decide +kernel
theorem dL_law_355 : decode cL_law 355 = .ok (.iaload, 1) := by decide +kernel
theorem dL_law_356 : decode cL_law 356 = .ok (.aload_n 0, 1) := by decide +kernel
theorem dL_law_357 : decode cL_law 357 = .ok (.iload_n 3, 1) := by decide +kernel
theorem dL_law_358 : decode cL_law 358 = .ok (.iconst 3, 1) := by decide +kernel
theorem dL_law_359 : decode cL_law 359 = .ok (.iadd, 1) := by decide +kernel
theorem dL_law_360 : decode cL_law 360 = .ok (.iaload, 1) := by decide +kernel
theorem dL_law_361 : decode cL_law 361 = .ok (.aload_n 0, 1) := by decide +kernel
theorem dL_law_362 : decode cL_law 362 = .ok (.iload_n 3, 1) := by decide +kernel
theorem dL_law_363 : decode cL_law 363 = .ok (.iconst 4, 1) := by decide +kernel
theorem dL_law_364 : decode cL_law 364 = .ok (.iadd, 1) := by decide +kernel
theorem dL_law_365 : decode cL_law 365 = .ok (.iaload, 1) := by decide +kernel
theorem dL_law_366 : decode cL_law 366 = .ok (.aload_n 0, 1) := by decide +kernel
theorem dL_law_367 : decode cL_law 367 = .ok (.iload_n 3, 1) := by decide +kernel
theorem dL_law_368 : decode cL_law 368 = .ok (.iconst 5, 1) := by decide +kernel
theorem dL_law_369 : decode cL_law 369 = .ok (.iadd, 1) := by decide +kernel
theorem dL_law_370 : decode cL_law 370 = .ok (.iaload, 1) := by decide +kernel
theorem dL_law_371 : decode cL_law 371 = .ok (.invokevirtual 37, 3) := by decide +kernel
theorem dL_law_374 : decode cL_law 374 = .ok (.aload_n 2, 1) := by decide +kernel
theorem dL_law_375 : decode cL_law 375 = .ok (.aload_n 0, 1) := by decide +kernel
theorem dL_law_376 : decode cL_law 376 = .ok (.iload_n 3, 1) := by decide +kernel
theorem dL_law_377 : decode cL_law 377 = .ok (.iconst 1, 1) := by decide +kernel
theorem dL_law_378 : decode cL_law 378 = .ok (.iadd, 1) := by decide +kernel
theorem dL_law_379 : decode cL_law 379 = .ok (.iaload, 1) := by decide +kernel
theorem dL_law_380 : decode cL_law 380 = .ok (.aload_n 0, 1) := by decide +kernel
theorem dL_law_381 : decode cL_law 381 = .ok (.iload_n 3, 1) := by decide +kernel
theorem dL_law_382 : decode cL_law 382 = .ok (.iconst 2, 1) := by decide +kernel
theorem dL_law_383 : decode cL_law 383 = .ok (.iadd, 1) := by decide +kernel
theorem dL_law_384 : decode cL_law 384 = .ok (.iaload, 1) := by decide +kernel
theorem dL_law_385 : decode cL_law 385 = .ok (.aload_n 0, 1) := by decide +kernel
theorem dL_law_386 : decode cL_law 386 = .ok (.iload_n 3, 1) := by decide +kernel
theorem dL_law_387 : decode cL_law 387 = .ok (.iconst 3, 1) := by decide +kernel
theorem dL_law_388 : decode cL_law 388 = .ok (.iadd, 1) := by decide +kernel
theorem dL_law_389 : decode cL_law 389 = .ok (.iaload, 1) := by decide +kernel
theorem dL_law_390 : decode cL_law 390 = .ok (.aload_n 0, 1) := by decide +kernel
theorem dL_law_391 : decode cL_law 391 = .ok (.iload_n 3, 1) := by decide +kernel
theorem dL_law_392 : decode cL_law 392 = .ok (.iconst 4, 1) := by decide +kernel
theorem dL_law_393 : decode cL_law 393 = .ok (.iadd, 1) := by decide +kernel
theorem dL_law_394 : decode cL_law 394 = .ok (.iaload, 1) := by decide +kernel
theorem dL_law_395 : decode cL_law 395 = .ok (.aload_n 0, 1) := by decide +kernel
theorem dL_law_396 : decode cL_law 396 = .ok (.iload_n 3, 1) := by decide +kernel
theorem dL_law_397 : decode cL_law 397 = .ok (.iconst 5, 1) := by decide +kernel
theorem dL_law_398 : decode cL_law 398 = .ok (.iadd, 1) := by decide +kernel
theorem dL_law_399 : decode cL_law 399 = .ok (.iaload, 1) := by decide +kernel
theorem dL_law_400 : decode cL_law 400 = .ok (.invokevirtual 41, 3) := by decide +kernel
theorem dL_law_403 : decode cL_law 403 = .ok (.if_icmp .eq 659, 3) := by decide +kernel
theorem dL_law_406 : decode cL_law 406 = .ok (.iconst 0, 1) := by decide +kernel
theorem dL_law_407 : decode cL_law 407 = .ok (.ireturn, 1) := by decide +kernel
theorem dL_law_408 : decode cL_law 408 = .ok (.aload_n 1, 1) := by decide +kernel
theorem dL_law_409 : decode cL_law 409 = .ok (.aload_n 0, 1) := by decide +kernel
theorem dL_law_410 : decode cL_law 410 = .ok (.iload_n 3, 1) := by decide +kernel
theorem dL_law_411 : decode cL_law 411 = .ok (.iconst 1, 1) := by decide +kernel
theorem dL_law_412 : decode cL_law 412 = .ok (.iadd, 1) := by decide +kernel
theorem dL_law_413 : decode cL_law 413 = .ok (.iaload, 1) := by decide +kernel
theorem dL_law_414 : decode cL_law 414 = .ok (.aload_n 0, 1) := by decide +kernel
theorem dL_law_415 : decode cL_law 415 = .ok (.iload_n 3, 1) := by decide +kernel
theorem dL_law_416 : decode cL_law 416 = .ok (.iconst 2, 1) := by decide +kernel
theorem dL_law_417 : decode cL_law 417 = .ok (.iadd, 1) := by decide +kernel
theorem dL_law_418 : decode cL_law 418 = .ok (.iaload, 1) := by decide +kernel
theorem dL_law_419 : decode cL_law 419 = .ok (.invokevirtual 42, 3) := by decide +kernel
theorem dL_law_422 : decode cL_law 422 = .ok (.aload_n 2, 1) := by decide +kernel
theorem dL_law_423 : decode cL_law 423 = .ok (.aload_n 0, 1) := by decide +kernel
theorem dL_law_424 : decode cL_law 424 = .ok (.iload_n 3, 1) := by decide +kernel
theorem dL_law_425 : decode cL_law 425 = .ok (.iconst 1, 1) := by decide +kernel
theorem dL_law_426 : decode cL_law 426 = .ok (.iadd, 1) := by decide +kernel
theorem dL_law_427 : decode cL_law 427 = .ok (.iaload, 1) := by decide +kernel
theorem dL_law_428 : decode cL_law 428 = .ok (.aload_n 0, 1) := by decide +kernel
theorem dL_law_429 : decode cL_law 429 = .ok (.iload_n 3, 1) := by decide +kernel
theorem dL_law_430 : decode cL_law 430 = .ok (.iconst 2, 1) := by decide +kernel
theorem dL_law_431 : decode cL_law 431 = .ok (.iadd, 1) := by decide +kernel
theorem dL_law_432 : decode cL_law 432 = .ok (.iaload, 1) := by decide +kernel
theorem dL_law_433 : decode cL_law 433 = .ok (.invokevirtual 46, 3) := by decide +kernel
theorem dL_law_436 : decode cL_law 436 = .ok (.lcmp, 1) := by decide +kernel
theorem dL_law_437 : decode cL_law 437 = .ok (.ifCond .eq 625, 3) := by decide +kernel
theorem dL_law_440 : decode cL_law 440 = .ok (.iconst 0, 1) := by decide +kernel
theorem dL_law_441 : decode cL_law 441 = .ok (.ireturn, 1) := by decide +kernel
theorem dL_law_442 : decode cL_law 442 = .ok (.aload_n 1, 1) := by decide +kernel
theorem dL_law_443 : decode cL_law 443 = .ok (.aload_n 0, 1) := by decide +kernel
theorem dL_law_444 : decode cL_law 444 = .ok (.iload_n 3, 1) := by decide +kernel
theorem dL_law_445 : decode cL_law 445 = .ok (.iconst 1, 1) := by decide +kernel
theorem dL_law_446 : decode cL_law 446 = .ok (.iadd, 1) := by decide +kernel
theorem dL_law_447 : decode cL_law 447 = .ok (.iaload, 1) := by decide +kernel
theorem dL_law_448 : decode cL_law 448 = .ok (.aload_n 0, 1) := by decide +kernel
theorem dL_law_449 : decode cL_law 449 = .ok (.iload_n 3, 1) := by decide +kernel
theorem dL_law_450 : decode cL_law 450 = .ok (.iconst 2, 1) := by decide +kernel
theorem dL_law_451 : decode cL_law 451 = .ok (.iadd, 1) := by decide +kernel
theorem dL_law_452 : decode cL_law 452 = .ok (.iaload, 1) := by decide +kernel
theorem dL_law_453 : decode cL_law 453 = .ok (.invokevirtual 47, 3) := by decide +kernel
theorem dL_law_456 : decode cL_law 456 = .ok (.aload_n 2, 1) := by decide +kernel
theorem dL_law_457 : decode cL_law 457 = .ok (.aload_n 0, 1) := by decide +kernel
theorem dL_law_458 : decode cL_law 458 = .ok (.iload_n 3, 1) := by decide +kernel
theorem dL_law_459 : decode cL_law 459 = .ok (.iconst 1, 1) := by decide +kernel
theorem dL_law_460 : decode cL_law 460 = .ok (.iadd, 1) := by decide +kernel
theorem dL_law_461 : decode cL_law 461 = .ok (.iaload, 1) := by decide +kernel
theorem dL_law_462 : decode cL_law 462 = .ok (.aload_n 0, 1) := by decide +kernel
theorem dL_law_463 : decode cL_law 463 = .ok (.iload_n 3, 1) := by decide +kernel
theorem dL_law_464 : decode cL_law 464 = .ok (.iconst 2, 1) := by decide +kernel
theorem dL_law_465 : decode cL_law 465 = .ok (.iadd, 1) := by decide +kernel
theorem dL_law_466 : decode cL_law 466 = .ok (.iaload, 1) := by decide +kernel
theorem dL_law_467 : decode cL_law 467 = .ok (.invokevirtual 50, 3) := by decide +kernel
theorem dL_law_470 : decode cL_law 470 = .ok (.lcmp, 1) := by decide +kernel
theorem dL_law_471 : decode cL_law 471 = .ok (.ifCond .eq 591, 3) := by decide +kernel
theorem dL_law_474 : decode cL_law 474 = .ok (.iconst 0, 1) := by decide +kernel
theorem dL_law_475 : decode cL_law 475 = .ok (.ireturn, 1) := by decide +kernel
theorem dL_law_476 : decode cL_law 476 = .ok (.aload_n 1, 1) := by decide +kernel
theorem dL_law_477 : decode cL_law 477 = .ok (.aload_n 0, 1) := by decide +kernel
theorem dL_law_478 : decode cL_law 478 = .ok (.iload_n 3, 1) := by decide +kernel
theorem dL_law_479 : decode cL_law 479 = .ok (.iconst 1, 1) := by decide +kernel
theorem dL_law_480 : decode cL_law 480 = .ok (.iadd, 1) := by decide +kernel
theorem dL_law_481 : decode cL_law 481 = .ok (.iaload, 1) := by decide +kernel
theorem dL_law_482 : decode cL_law 482 = .ok (.invokevirtual 51, 3) := by decide +kernel
theorem dL_law_485 : decode cL_law 485 = .ok (.aload_n 2, 1) := by decide +kernel
theorem dL_law_486 : decode cL_law 486 = .ok (.aload_n 0, 1) := by decide +kernel
theorem dL_law_487 : decode cL_law 487 = .ok (.iload_n 3, 1) := by decide +kernel
theorem dL_law_488 : decode cL_law 488 = .ok (.iconst 1, 1) := by decide +kernel
theorem dL_law_489 : decode cL_law 489 = .ok (.iadd, 1) := by decide +kernel
theorem dL_law_490 : decode cL_law 490 = .ok (.iaload, 1) := by decide +kernel
theorem dL_law_491 : decode cL_law 491 = .ok (.invokevirtual 55, 3) := by decide +kernel
theorem dL_law_494 : decode cL_law 494 = .ok (.lcmp, 1) := by decide +kernel
theorem dL_law_495 : decode cL_law 495 = .ok (.ifCond .eq 567, 3) := by decide +kernel
theorem dL_law_498 : decode cL_law 498 = .ok (.iconst 0, 1) := by decide +kernel
theorem dL_law_499 : decode cL_law 499 = .ok (.ireturn, 1) := by decide +kernel
theorem dL_law_500 : decode cL_law 500 = .ok (.aload_n 1, 1) := by decide +kernel
theorem dL_law_501 : decode cL_law 501 = .ok (.aload_n 0, 1) := by decide +kernel
theorem dL_law_502 : decode cL_law 502 = .ok (.iload_n 3, 1) := by decide +kernel
theorem dL_law_503 : decode cL_law 503 = .ok (.iconst 1, 1) := by decide +kernel
theorem dL_law_504 : decode cL_law 504 = .ok (.iadd, 1) := by decide +kernel
theorem dL_law_505 : decode cL_law 505 = .ok (.iaload, 1) := by decide +kernel
theorem dL_law_506 : decode cL_law 506 = .ok (.invokevirtual 56, 3) := by decide +kernel
theorem dL_law_509 : decode cL_law 509 = .ok (.aload_n 2, 1) := by decide +kernel
theorem dL_law_510 : decode cL_law 510 = .ok (.aload_n 0, 1) := by decide +kernel
theorem dL_law_511 : decode cL_law 511 = .ok (.iload_n 3, 1) := by decide +kernel
theorem dL_law_512 : decode cL_law 512 = .ok (.iconst 1, 1) := by decide +kernel
theorem dL_law_513 : decode cL_law 513 = .ok (.iadd, 1) := by decide +kernel
theorem dL_law_514 : decode cL_law 514 = .ok (.iaload, 1) := by decide +kernel
theorem dL_law_515 : decode cL_law 515 = .ok (.invokevirtual 59, 3) := by decide +kernel
theorem dL_law_518 : decode cL_law 518 = .ok (.lcmp, 1) := by decide +kernel
theorem dL_law_519 : decode cL_law 519 = .ok (.ifCond .eq 543, 3) := by decide +kernel
theorem dL_law_522 : decode cL_law 522 = .ok (.iconst 0, 1) := by decide +kernel
theorem dL_law_523 : decode cL_law 523 = .ok (.ireturn, 1) := by decide +kernel
theorem dL_law_524 : decode cL_law 524 = .ok (.aload_n 1, 1) := by decide +kernel
theorem dL_law_525 : decode cL_law 525 = .ok (.aload_n 0, 1) := by decide +kernel
theorem dL_law_526 : decode cL_law 526 = .ok (.iload_n 3, 1) := by decide +kernel
theorem dL_law_527 : decode cL_law 527 = .ok (.iconst 1, 1) := by decide +kernel
theorem dL_law_528 : decode cL_law 528 = .ok (.iadd, 1) := by decide +kernel
theorem dL_law_529 : decode cL_law 529 = .ok (.iaload, 1) := by decide +kernel
theorem dL_law_530 : decode cL_law 530 = .ok (.aload_n 0, 1) := by decide +kernel
theorem dL_law_531 : decode cL_law 531 = .ok (.iload_n 3, 1) := by decide +kernel
theorem dL_law_532 : decode cL_law 532 = .ok (.iconst 2, 1) := by decide +kernel
theorem dL_law_533 : decode cL_law 533 = .ok (.iadd, 1) := by decide +kernel
theorem dL_law_534 : decode cL_law 534 = .ok (.iaload, 1) := by decide +kernel
theorem dL_law_535 : decode cL_law 535 = .ok (.aload_n 0, 1) := by decide +kernel
theorem dL_law_536 : decode cL_law 536 = .ok (.iload_n 3, 1) := by decide +kernel
theorem dL_law_537 : decode cL_law 537 = .ok (.iconst 3, 1) := by decide +kernel
theorem dL_law_538 : decode cL_law 538 = .ok (.iadd, 1) := by decide +kernel
theorem dL_law_539 : decode cL_law 539 = .ok (.iaload, 1) := by decide +kernel
theorem dL_law_540 : decode cL_law 540 = .ok (.invokevirtual 60, 3) := by decide +kernel
theorem dL_law_543 : decode cL_law 543 = .ok (.aload_n 2, 1) := by decide +kernel
theorem dL_law_544 : decode cL_law 544 = .ok (.aload_n 0, 1) := by decide +kernel
theorem dL_law_545 : decode cL_law 545 = .ok (.iload_n 3, 1) := by decide +kernel
theorem dL_law_546 : decode cL_law 546 = .ok (.iconst 1, 1) := by decide +kernel
theorem dL_law_547 : decode cL_law 547 = .ok (.iadd, 1) := by decide +kernel
theorem dL_law_548 : decode cL_law 548 = .ok (.iaload, 1) := by decide +kernel
theorem dL_law_549 : decode cL_law 549 = .ok (.aload_n 0, 1) := by decide +kernel
theorem dL_law_550 : decode cL_law 550 = .ok (.iload_n 3, 1) := by decide +kernel
theorem dL_law_551 : decode cL_law 551 = .ok (.iconst 2, 1) := by decide +kernel
theorem dL_law_552 : decode cL_law 552 = .ok (.iadd, 1) := by decide +kernel
theorem dL_law_553 : decode cL_law 553 = .ok (.iaload, 1) := by decide +kernel
theorem dL_law_554 : decode cL_law 554 = .ok (.aload_n 0, 1) := by decide +kernel
theorem dL_law_555 : decode cL_law 555 = .ok (.iload_n 3, 1) := by decide +kernel
theorem dL_law_556 : decode cL_law 556 = .ok (.iconst 3, 1) := by decide +kernel
theorem dL_law_557 : decode cL_law 557 = .ok (.iadd, 1) := by decide +kernel
theorem dL_law_558 : decode cL_law 558 = .ok (.iaload, 1) := by decide +kernel
theorem dL_law_559 : decode cL_law 559 = .ok (.invokevirtual 64, 3) := by decide +kernel
theorem dL_law_562 : decode cL_law 562 = .ok (.if_icmp .eq 500, 3) := by decide +kernel
theorem dL_law_565 : decode cL_law 565 = .ok (.iconst 0, 1) := by decide +kernel
theorem dL_law_566 : decode cL_law 566 = .ok (.ireturn, 1) := by decide +kernel
theorem dL_law_567 : decode cL_law 567 = .ok (.aload_n 1, 1) := by decide +kernel
theorem dL_law_568 : decode cL_law 568 = .ok (.aload_n 0, 1) := by decide +kernel
theorem dL_law_569 : decode cL_law 569 = .ok (.iload_n 3, 1) := by decide +kernel
theorem dL_law_570 : decode cL_law 570 = .ok (.iconst 1, 1) := by decide +kernel
theorem dL_law_571 : decode cL_law 571 = .ok (.iadd, 1) := by decide +kernel
theorem dL_law_572 : decode cL_law 572 = .ok (.iaload, 1) := by decide +kernel
theorem dL_law_573 : decode cL_law 573 = .ok (.invokevirtual 65, 3) := by decide +kernel
theorem dL_law_576 : decode cL_law 576 = .ok (.aload_n 2, 1) := by decide +kernel
theorem dL_law_577 : decode cL_law 577 = .ok (.aload_n 0, 1) := by decide +kernel
theorem dL_law_578 : decode cL_law 578 = .ok (.iload_n 3, 1) := by decide +kernel
theorem dL_law_579 : decode cL_law 579 = .ok (.iconst 1, 1) := by decide +kernel
theorem dL_law_580 : decode cL_law 580 = .ok (.iadd, 1) := by decide +kernel
theorem dL_law_581 : decode cL_law 581 = .ok (.iaload, 1) := by decide +kernel
theorem dL_law_582 : decode cL_law 582 = .ok (.invokevirtual 68, 3) := by decide +kernel
theorem dL_law_585 : decode cL_law 585 = .ok (.if_icmp .eq 477, 3) := by decide +kernel
theorem dL_law_588 : decode cL_law 588 = .ok (.iconst 0, 1) := by decide +kernel
theorem dL_law_589 : decode cL_law 589 = .ok (.ireturn, 1) := by decide +kernel
theorem dL_law_590 : decode cL_law 590 = .ok (.aload_n 1, 1) := by decide +kernel
theorem dL_law_591 : decode cL_law 591 = .ok (.aload_n 0, 1) := by decide +kernel
theorem dL_law_592 : decode cL_law 592 = .ok (.iload_n 3, 1) := by decide +kernel
theorem dL_law_593 : decode cL_law 593 = .ok (.iconst 1, 1) := by decide +kernel
theorem dL_law_594 : decode cL_law 594 = .ok (.iadd, 1) := by decide +kernel
theorem dL_law_595 : decode cL_law 595 = .ok (.iaload, 1) := by decide +kernel
theorem dL_law_596 : decode cL_law 596 = .ok (.invokevirtual 69, 3) := by decide +kernel
theorem dL_law_599 : decode cL_law 599 = .ok (.aload_n 2, 1) := by decide +kernel
theorem dL_law_600 : decode cL_law 600 = .ok (.aload_n 0, 1) := by decide +kernel
theorem dL_law_601 : decode cL_law 601 = .ok (.iload_n 3, 1) := by decide +kernel
theorem dL_law_602 : decode cL_law 602 = .ok (.iconst 1, 1) := by decide +kernel
theorem dL_law_603 : decode cL_law 603 = .ok (.iadd, 1) := by decide +kernel
theorem dL_law_604 : decode cL_law 604 = .ok (.iaload, 1) := by decide +kernel
theorem dL_law_605 : decode cL_law 605 = .ok (.invokevirtual 72, 3) := by decide +kernel
theorem dL_law_608 : decode cL_law 608 = .ok (.if_icmp .eq 454, 3) := by decide +kernel
theorem dL_law_611 : decode cL_law 611 = .ok (.iconst 0, 1) := by decide +kernel
theorem dL_law_612 : decode cL_law 612 = .ok (.ireturn, 1) := by decide +kernel
theorem dL_law_613 : decode cL_law 613 = .ok (.aload_n 1, 1) := by decide +kernel
theorem dL_law_614 : decode cL_law 614 = .ok (.aload_n 0, 1) := by decide +kernel
theorem dL_law_615 : decode cL_law 615 = .ok (.iload_n 3, 1) := by decide +kernel
theorem dL_law_616 : decode cL_law 616 = .ok (.iconst 1, 1) := by decide +kernel
theorem dL_law_617 : decode cL_law 617 = .ok (.iadd, 1) := by decide +kernel
theorem dL_law_618 : decode cL_law 618 = .ok (.iaload, 1) := by decide +kernel
theorem dL_law_619 : decode cL_law 619 = .ok (.invokevirtual 73, 3) := by decide +kernel
theorem dL_law_622 : decode cL_law 622 = .ok (.aload_n 2, 1) := by decide +kernel
theorem dL_law_623 : decode cL_law 623 = .ok (.aload_n 0, 1) := by decide +kernel
theorem dL_law_624 : decode cL_law 624 = .ok (.iload_n 3, 1) := by decide +kernel
theorem dL_law_625 : decode cL_law 625 = .ok (.iconst 1, 1) := by decide +kernel
theorem dL_law_626 : decode cL_law 626 = .ok (.iadd, 1) := by decide +kernel
theorem dL_law_627 : decode cL_law 627 = .ok (.iaload, 1) := by decide +kernel
theorem dL_law_628 : decode cL_law 628 = .ok (.invokevirtual 76, 3) := by decide +kernel
theorem dL_law_631 : decode cL_law 631 = .ok (.if_icmp .eq 431, 3) := by decide +kernel
theorem dL_law_634 : decode cL_law 634 = .ok (.iconst 0, 1) := by decide +kernel
theorem dL_law_635 : decode cL_law 635 = .ok (.ireturn, 1) := by decide +kernel
theorem dL_law_636 : decode cL_law 636 = .ok (.aload_n 1, 1) := by decide +kernel
theorem dL_law_637 : decode cL_law 637 = .ok (.aload_n 0, 1) := by decide +kernel
theorem dL_law_638 : decode cL_law 638 = .ok (.iload_n 3, 1) := by decide +kernel
theorem dL_law_639 : decode cL_law 639 = .ok (.iconst 1, 1) := by decide +kernel
theorem dL_law_640 : decode cL_law 640 = .ok (.iadd, 1) := by decide +kernel
theorem dL_law_641 : decode cL_law 641 = .ok (.iaload, 1) := by decide +kernel
theorem dL_law_642 : decode cL_law 642 = .ok (.invokevirtual 77, 3) := by decide +kernel
theorem dL_law_645 : decode cL_law 645 = .ok (.aload_n 2, 1) := by decide +kernel
theorem dL_law_646 : decode cL_law 646 = .ok (.aload_n 0, 1) := by decide +kernel
theorem dL_law_647 : decode cL_law 647 = .ok (.iload_n 3, 1) := by decide +kernel
theorem dL_law_648 : decode cL_law 648 = .ok (.iconst 1, 1) := by decide +kernel
theorem dL_law_649 : decode cL_law 649 = .ok (.iadd, 1) := by decide +kernel
theorem dL_law_650 : decode cL_law 650 = .ok (.iaload, 1) := by decide +kernel
theorem dL_law_651 : decode cL_law 651 = .ok (.invokevirtual 80, 3) := by decide +kernel
theorem dL_law_654 : decode cL_law 654 = .ok (.if_icmp .eq 408, 3) := by decide +kernel
theorem dL_law_657 : decode cL_law 657 = .ok (.iconst 0, 1) := by decide +kernel
theorem dL_law_658 : decode cL_law 658 = .ok (.ireturn, 1) := by decide +kernel
theorem dL_law_659 : decode cL_law 659 = .ok (.aload_n 1, 1) := by decide +kernel
theorem dL_law_660 : decode cL_law 660 = .ok (.aload_n 0, 1) := by decide +kernel
theorem dL_law_661 : decode cL_law 661 = .ok (.iload_n 3, 1) := by decide +kernel
theorem dL_law_662 : decode cL_law 662 = .ok (.iconst 1, 1) := by decide +kernel
theorem dL_law_663 : decode cL_law 663 = .ok (.iadd, 1) := by decide +kernel
theorem dL_law_664 : decode cL_law 664 = .ok (.iaload, 1) := by decide +kernel
theorem dL_law_665 : decode cL_law 665 = .ok (.invokevirtual 81, 3) := by decide +kernel
theorem dL_law_668 : decode cL_law 668 = .ok (.aload_n 2, 1) := by decide +kernel
theorem dL_law_669 : decode cL_law 669 = .ok (.aload_n 0, 1) := by decide +kernel
theorem dL_law_670 : decode cL_law 670 = .ok (.iload_n 3, 1) := by decide +kernel
theorem dL_law_671 : decode cL_law 671 = .ok (.iconst 1, 1) := by decide +kernel
theorem dL_law_672 : decode cL_law 672 = .ok (.iadd, 1) := by decide +kernel
theorem dL_law_673 : decode cL_law 673 = .ok (.iaload, 1) := by decide +kernel
theorem dL_law_674 : decode cL_law 674 = .ok (.invokevirtual 84, 3) := by decide +kernel
theorem dL_law_677 : decode cL_law 677 = .ok (.if_icmp .eq 385, 3) := by decide +kernel
theorem dL_law_680 : decode cL_law 680 = .ok (.iconst 0, 1) := by decide +kernel
theorem dL_law_681 : decode cL_law 681 = .ok (.ireturn, 1) := by decide +kernel
theorem dL_law_682 : decode cL_law 682 = .ok (.aload_n 1, 1) := by decide +kernel
theorem dL_law_683 : decode cL_law 683 = .ok (.aload_n 0, 1) := by decide +kernel
theorem dL_law_684 : decode cL_law 684 = .ok (.iload_n 3, 1) := by decide +kernel
theorem dL_law_685 : decode cL_law 685 = .ok (.iconst 1, 1) := by decide +kernel
theorem dL_law_686 : decode cL_law 686 = .ok (.iadd, 1) := by decide +kernel
theorem dL_law_687 : decode cL_law 687 = .ok (.iaload, 1) := by decide +kernel
theorem dL_law_688 : decode cL_law 688 = .ok (.invokevirtual 85, 3) := by decide +kernel
theorem dL_law_691 : decode cL_law 691 = .ok (.aload_n 2, 1) := by decide +kernel
theorem dL_law_692 : decode cL_law 692 = .ok (.aload_n 0, 1) := by decide +kernel
theorem dL_law_693 : decode cL_law 693 = .ok (.iload_n 3, 1) := by decide +kernel
theorem dL_law_694 : decode cL_law 694 = .ok (.iconst 1, 1) := by decide +kernel
theorem dL_law_695 : decode cL_law 695 = .ok (.iadd, 1) := by decide +kernel
theorem dL_law_696 : decode cL_law 696 = .ok (.iaload, 1) := by decide +kernel
theorem dL_law_697 : decode cL_law 697 = .ok (.invokevirtual 88, 3) := by decide +kernel
theorem dL_law_700 : decode cL_law 700 = .ok (.if_icmp .eq 362, 3) := by decide +kernel
theorem dL_law_703 : decode cL_law 703 = .ok (.iconst 0, 1) := by decide +kernel
theorem dL_law_704 : decode cL_law 704 = .ok (.ireturn, 1) := by decide +kernel
theorem dL_law_705 : decode cL_law 705 = .ok (.aload_n 1, 1) := by decide +kernel
theorem dL_law_706 : decode cL_law 706 = .ok (.invokevirtual 89, 3) := by decide +kernel
theorem dL_law_709 : decode cL_law 709 = .ok (.aload_n 2, 1) := by decide +kernel
theorem dL_law_710 : decode cL_law 710 = .ok (.invokevirtual 93, 3) := by decide +kernel
theorem dL_law_713 : decode cL_law 713 = .ok (.if_icmp .eq 349, 3) := by decide +kernel
theorem dL_law_716 : decode cL_law 716 = .ok (.iconst 0, 1) := by decide +kernel
theorem dL_law_717 : decode cL_law 717 = .ok (.ireturn, 1) := by decide +kernel
theorem dL_law_718 : decode cL_law 718 = .ok (.aload_n 1, 1) := by decide +kernel
theorem dL_law_719 : decode cL_law 719 = .ok (.aload_n 0, 1) := by decide +kernel
theorem dL_law_720 : decode cL_law 720 = .ok (.iload_n 3, 1) := by decide +kernel
theorem dL_law_721 : decode cL_law 721 = .ok (.iconst 1, 1) := by decide +kernel
theorem dL_law_722 : decode cL_law 722 = .ok (.iadd, 1) := by decide +kernel
theorem dL_law_723 : decode cL_law 723 = .ok (.iaload, 1) := by decide +kernel
theorem dL_law_724 : decode cL_law 724 = .ok (.aload_n 0, 1) := by decide +kernel
theorem dL_law_725 : decode cL_law 725 = .ok (.iload_n 3, 1) := by decide +kernel
theorem dL_law_726 : decode cL_law 726 = .ok (.iconst 2, 1) := by decide +kernel
theorem dL_law_727 : decode cL_law 727 = .ok (.iadd, 1) := by decide +kernel
theorem dL_law_728 : decode cL_law 728 = .ok (.iaload, 1) := by decide +kernel
theorem dL_law_729 : decode cL_law 729 = .ok (.aload_n 0, 1) := by decide +kernel
theorem dL_law_730 : decode cL_law 730 = .ok (.iload_n 3, 1) := by decide +kernel
theorem dL_law_731 : decode cL_law 731 = .ok (.iconst 3, 1) := by decide +kernel
theorem dL_law_732 : decode cL_law 732 = .ok (.iadd, 1) := by decide +kernel
theorem dL_law_733 : decode cL_law 733 = .ok (.iaload, 1) := by decide +kernel
theorem dL_law_734 : decode cL_law 734 = .ok (.invokevirtual 94, 3) := by decide +kernel
theorem dL_law_737 : decode cL_law 737 = .ok (.aload_n 2, 1) := by decide +kernel
theorem dL_law_738 : decode cL_law 738 = .ok (.aload_n 0, 1) := by decide +kernel
theorem dL_law_739 : decode cL_law 739 = .ok (.iload_n 3, 1) := by decide +kernel
theorem dL_law_740 : decode cL_law 740 = .ok (.iconst 1, 1) := by decide +kernel
theorem dL_law_741 : decode cL_law 741 = .ok (.iadd, 1) := by decide +kernel
theorem dL_law_742 : decode cL_law 742 = .ok (.iaload, 1) := by decide +kernel
theorem dL_law_743 : decode cL_law 743 = .ok (.aload_n 0, 1) := by decide +kernel
theorem dL_law_744 : decode cL_law 744 = .ok (.iload_n 3, 1) := by decide +kernel
theorem dL_law_745 : decode cL_law 745 = .ok (.iconst 2, 1) := by decide +kernel
theorem dL_law_746 : decode cL_law 746 = .ok (.iadd, 1) := by decide +kernel
theorem dL_law_747 : decode cL_law 747 = .ok (.iaload, 1) := by decide +kernel
theorem dL_law_748 : decode cL_law 748 = .ok (.aload_n 0, 1) := by decide +kernel
theorem dL_law_749 : decode cL_law 749 = .ok (.iload_n 3, 1) := by decide +kernel
theorem dL_law_750 : decode cL_law 750 = .ok (.iconst 3, 1) := by decide +kernel
theorem dL_law_751 : decode cL_law 751 = .ok (.iadd, 1) := by decide +kernel
theorem dL_law_752 : decode cL_law 752 = .ok (.iaload, 1) := by decide +kernel
theorem dL_law_753 : decode cL_law 753 = .ok (.invokevirtual 97, 3) := by decide +kernel
theorem dL_law_756 : decode cL_law 756 = .ok (.if_icmp .eq 306, 3) := by decide +kernel
theorem dL_law_759 : decode cL_law 759 = .ok (.iconst 0, 1) := by decide +kernel
theorem dL_law_760 : decode cL_law 760 = .ok (.ireturn, 1) := by decide +kernel
theorem dL_law_761 : decode cL_law 761 = .ok (.aload_n 1, 1) := by decide +kernel
theorem dL_law_762 : decode cL_law 762 = .ok (.aload_n 0, 1) := by decide +kernel
theorem dL_law_763 : decode cL_law 763 = .ok (.iload_n 3, 1) := by decide +kernel
theorem dL_law_764 : decode cL_law 764 = .ok (.iconst 1, 1) := by decide +kernel
theorem dL_law_765 : decode cL_law 765 = .ok (.iadd, 1) := by decide +kernel
theorem dL_law_766 : decode cL_law 766 = .ok (.iaload, 1) := by decide +kernel
theorem dL_law_767 : decode cL_law 767 = .ok (.invokevirtual 98, 3) := by decide +kernel
theorem dL_law_770 : decode cL_law 770 = .ok (.aload_n 2, 1) := by decide +kernel
theorem dL_law_771 : decode cL_law 771 = .ok (.aload_n 0, 1) := by decide +kernel
theorem dL_law_772 : decode cL_law 772 = .ok (.iload_n 3, 1) := by decide +kernel
theorem dL_law_773 : decode cL_law 773 = .ok (.iconst 1, 1) := by decide +kernel
theorem dL_law_774 : decode cL_law 774 = .ok (.iadd, 1) := by decide +kernel
theorem dL_law_775 : decode cL_law 775 = .ok (.iaload, 1) := by decide +kernel
theorem dL_law_776 : decode cL_law 776 = .ok (.invokevirtual 101, 3) := by decide +kernel
theorem dL_law_779 : decode cL_law 779 = .ok (.if_icmp .eq 283, 3) := by decide +kernel
theorem dL_law_782 : decode cL_law 782 = .ok (.iconst 0, 1) := by decide +kernel
theorem dL_law_783 : decode cL_law 783 = .ok (.ireturn, 1) := by decide +kernel
theorem dL_law_784 : decode cL_law 784 = .ok (.aload_n 1, 1) := by decide +kernel
theorem dL_law_785 : decode cL_law 785 = .ok (.aload_n 0, 1) := by decide +kernel
theorem dL_law_786 : decode cL_law 786 = .ok (.iload_n 3, 1) := by decide +kernel
theorem dL_law_787 : decode cL_law 787 = .ok (.iconst 1, 1) := by decide +kernel
theorem dL_law_788 : decode cL_law 788 = .ok (.iadd, 1) := by decide +kernel
theorem dL_law_789 : decode cL_law 789 = .ok (.iaload, 1) := by decide +kernel
theorem dL_law_790 : decode cL_law 790 = .ok (.aload_n 0, 1) := by decide +kernel
theorem dL_law_791 : decode cL_law 791 = .ok (.iload_n 3, 1) := by decide +kernel
theorem dL_law_792 : decode cL_law 792 = .ok (.iconst 2, 1) := by decide +kernel
theorem dL_law_793 : decode cL_law 793 = .ok (.iadd, 1) := by decide +kernel
theorem dL_law_794 : decode cL_law 794 = .ok (.iaload, 1) := by decide +kernel
theorem dL_law_795 : decode cL_law 795 = .ok (.aload_n 0, 1) := by decide +kernel
theorem dL_law_796 : decode cL_law 796 = .ok (.iload_n 3, 1) := by decide +kernel
theorem dL_law_797 : decode cL_law 797 = .ok (.iconst 3, 1) := by decide +kernel
theorem dL_law_798 : decode cL_law 798 = .ok (.iadd, 1) := by decide +kernel
theorem dL_law_799 : decode cL_law 799 = .ok (.iaload, 1) := by decide +kernel
theorem dL_law_800 : decode cL_law 800 = .ok (.invokevirtual 102, 3) := by decide +kernel
theorem dL_law_803 : decode cL_law 803 = .ok (.aload_n 2, 1) := by decide +kernel
theorem dL_law_804 : decode cL_law 804 = .ok (.aload_n 0, 1) := by decide +kernel
theorem dL_law_805 : decode cL_law 805 = .ok (.iload_n 3, 1) := by decide +kernel
theorem dL_law_806 : decode cL_law 806 = .ok (.iconst 1, 1) := by decide +kernel
theorem dL_law_807 : decode cL_law 807 = .ok (.iadd, 1) := by decide +kernel
theorem dL_law_808 : decode cL_law 808 = .ok (.iaload, 1) := by decide +kernel
theorem dL_law_809 : decode cL_law 809 = .ok (.aload_n 0, 1) := by decide +kernel
theorem dL_law_810 : decode cL_law 810 = .ok (.iload_n 3, 1) := by decide +kernel
theorem dL_law_811 : decode cL_law 811 = .ok (.iconst 2, 1) := by decide +kernel
theorem dL_law_812 : decode cL_law 812 = .ok (.iadd, 1) := by decide +kernel
theorem dL_law_813 : decode cL_law 813 = .ok (.iaload, 1) := by decide +kernel
theorem dL_law_814 : decode cL_law 814 = .ok (.aload_n 0, 1) := by decide +kernel
theorem dL_law_815 : decode cL_law 815 = .ok (.iload_n 3, 1) := by decide +kernel
theorem dL_law_816 : decode cL_law 816 = .ok (.iconst 3, 1) := by decide +kernel
theorem dL_law_817 : decode cL_law 817 = .ok (.iadd, 1) := by decide +kernel
theorem dL_law_818 : decode cL_law 818 = .ok (.iaload, 1) := by decide +kernel
theorem dL_law_819 : decode cL_law 819 = .ok (.invokevirtual 105, 3) := by decide +kernel
theorem dL_law_822 : decode cL_law 822 = .ok (.if_icmp .eq 240, 3) := by decide +kernel
theorem dL_law_825 : decode cL_law 825 = .ok (.iconst 0, 1) := by decide +kernel
theorem dL_law_826 : decode cL_law 826 = .ok (.ireturn, 1) := by decide +kernel
theorem dL_law_827 : decode cL_law 827 = .ok (.aload_n 1, 1) := by decide +kernel
theorem dL_law_828 : decode cL_law 828 = .ok (.aload_n 0, 1) := by decide +kernel
theorem dL_law_829 : decode cL_law 829 = .ok (.iload_n 3, 1) := by decide +kernel
theorem dL_law_830 : decode cL_law 830 = .ok (.iconst 1, 1) := by decide +kernel
theorem dL_law_831 : decode cL_law 831 = .ok (.iadd, 1) := by decide +kernel
theorem dL_law_832 : decode cL_law 832 = .ok (.iaload, 1) := by decide +kernel
theorem dL_law_833 : decode cL_law 833 = .ok (.aload_n 0, 1) := by decide +kernel
theorem dL_law_834 : decode cL_law 834 = .ok (.iload_n 3, 1) := by decide +kernel
theorem dL_law_835 : decode cL_law 835 = .ok (.iconst 2, 1) := by decide +kernel
theorem dL_law_836 : decode cL_law 836 = .ok (.iadd, 1) := by decide +kernel
theorem dL_law_837 : decode cL_law 837 = .ok (.iaload, 1) := by decide +kernel
theorem dL_law_838 : decode cL_law 838 = .ok (.aload_n 0, 1) := by decide +kernel
theorem dL_law_839 : decode cL_law 839 = .ok (.iload_n 3, 1) := by decide +kernel
theorem dL_law_840 : decode cL_law 840 = .ok (.iconst 3, 1) := by decide +kernel
theorem dL_law_841 : decode cL_law 841 = .ok (.iadd, 1) := by decide +kernel
theorem dL_law_842 : decode cL_law 842 = .ok (.iaload, 1) := by decide +kernel
theorem dL_law_843 : decode cL_law 843 = .ok (.invokevirtual 106, 3) := by decide +kernel
theorem dL_law_846 : decode cL_law 846 = .ok (.aload_n 2, 1) := by decide +kernel
theorem dL_law_847 : decode cL_law 847 = .ok (.aload_n 0, 1) := by decide +kernel
theorem dL_law_848 : decode cL_law 848 = .ok (.iload_n 3, 1) := by decide +kernel
theorem dL_law_849 : decode cL_law 849 = .ok (.iconst 1, 1) := by decide +kernel
theorem dL_law_850 : decode cL_law 850 = .ok (.iadd, 1) := by decide +kernel
theorem dL_law_851 : decode cL_law 851 = .ok (.iaload, 1) := by decide +kernel
theorem dL_law_852 : decode cL_law 852 = .ok (.aload_n 0, 1) := by decide +kernel
theorem dL_law_853 : decode cL_law 853 = .ok (.iload_n 3, 1) := by decide +kernel
theorem dL_law_854 : decode cL_law 854 = .ok (.iconst 2, 1) := by decide +kernel
theorem dL_law_855 : decode cL_law 855 = .ok (.iadd, 1) := by decide +kernel
theorem dL_law_856 : decode cL_law 856 = .ok (.iaload, 1) := by decide +kernel
theorem dL_law_857 : decode cL_law 857 = .ok (.aload_n 0, 1) := by decide +kernel
theorem dL_law_858 : decode cL_law 858 = .ok (.iload_n 3, 1) := by decide +kernel
theorem dL_law_859 : decode cL_law 859 = .ok (.iconst 3, 1) := by decide +kernel
theorem dL_law_860 : decode cL_law 860 = .ok (.iadd, 1) := by decide +kernel
theorem dL_law_861 : decode cL_law 861 = .ok (.iaload, 1) := by decide +kernel
theorem dL_law_862 : decode cL_law 862 = .ok (.invokevirtual 110, 3) := by decide +kernel
theorem dL_law_865 : decode cL_law 865 = .ok (.lcmp, 1) := by decide +kernel
theorem dL_law_866 : decode cL_law 866 = .ok (.ifCond .eq 196, 3) := by decide +kernel
theorem dL_law_869 : decode cL_law 869 = .ok (.iconst 0, 1) := by decide +kernel
theorem dL_law_870 : decode cL_law 870 = .ok (.ireturn, 1) := by decide +kernel
theorem dL_law_871 : decode cL_law 871 = .ok (.aload_n 1, 1) := by decide +kernel
theorem dL_law_872 : decode cL_law 872 = .ok (.aload_n 0, 1) := by decide +kernel
theorem dL_law_873 : decode cL_law 873 = .ok (.iload_n 3, 1) := by decide +kernel
theorem dL_law_874 : decode cL_law 874 = .ok (.iconst 1, 1) := by decide +kernel
theorem dL_law_875 : decode cL_law 875 = .ok (.iadd, 1) := by decide +kernel
theorem dL_law_876 : decode cL_law 876 = .ok (.iaload, 1) := by decide +kernel
theorem dL_law_877 : decode cL_law 877 = .ok (.aload_n 0, 1) := by decide +kernel
theorem dL_law_878 : decode cL_law 878 = .ok (.iload_n 3, 1) := by decide +kernel
theorem dL_law_879 : decode cL_law 879 = .ok (.iconst 2, 1) := by decide +kernel
theorem dL_law_880 : decode cL_law 880 = .ok (.iadd, 1) := by decide +kernel
theorem dL_law_881 : decode cL_law 881 = .ok (.iaload, 1) := by decide +kernel
theorem dL_law_882 : decode cL_law 882 = .ok (.aload_n 0, 1) := by decide +kernel
theorem dL_law_883 : decode cL_law 883 = .ok (.iload_n 3, 1) := by decide +kernel
theorem dL_law_884 : decode cL_law 884 = .ok (.iconst 3, 1) := by decide +kernel
theorem dL_law_885 : decode cL_law 885 = .ok (.iadd, 1) := by decide +kernel
theorem dL_law_886 : decode cL_law 886 = .ok (.iaload, 1) := by decide +kernel
theorem dL_law_887 : decode cL_law 887 = .ok (.aload_n 0, 1) := by decide +kernel
theorem dL_law_888 : decode cL_law 888 = .ok (.iload_n 3, 1) := by decide +kernel
theorem dL_law_889 : decode cL_law 889 = .ok (.iconst 4, 1) := by decide +kernel
theorem dL_law_890 : decode cL_law 890 = .ok (.iadd, 1) := by decide +kernel
theorem dL_law_891 : decode cL_law 891 = .ok (.iaload, 1) := by decide +kernel
theorem dL_law_892 : decode cL_law 892 = .ok (.aload_n 0, 1) := by decide +kernel
theorem dL_law_893 : decode cL_law 893 = .ok (.iload_n 3, 1) := by decide +kernel
theorem dL_law_894 : decode cL_law 894 = .ok (.iconst 5, 1) := by decide +kernel
theorem dL_law_895 : decode cL_law 895 = .ok (.iadd, 1) := by decide +kernel
theorem dL_law_896 : decode cL_law 896 = .ok (.iaload, 1) := by decide +kernel
theorem dL_law_897 : decode cL_law 897 = .ok (.invokevirtual 111, 3) := by decide +kernel
theorem dL_law_900 : decode cL_law 900 = .ok (.aload_n 2, 1) := by decide +kernel
theorem dL_law_901 : decode cL_law 901 = .ok (.aload_n 0, 1) := by decide +kernel
theorem dL_law_902 : decode cL_law 902 = .ok (.iload_n 3, 1) := by decide +kernel
theorem dL_law_903 : decode cL_law 903 = .ok (.iconst 1, 1) := by decide +kernel
theorem dL_law_904 : decode cL_law 904 = .ok (.iadd, 1) := by decide +kernel
theorem dL_law_905 : decode cL_law 905 = .ok (.iaload, 1) := by decide +kernel
theorem dL_law_906 : decode cL_law 906 = .ok (.aload_n 0, 1) := by decide +kernel
theorem dL_law_907 : decode cL_law 907 = .ok (.iload_n 3, 1) := by decide +kernel
theorem dL_law_908 : decode cL_law 908 = .ok (.iconst 2, 1) := by decide +kernel
theorem dL_law_909 : decode cL_law 909 = .ok (.iadd, 1) := by decide +kernel
theorem dL_law_910 : decode cL_law 910 = .ok (.iaload, 1) := by decide +kernel
theorem dL_law_911 : decode cL_law 911 = .ok (.aload_n 0, 1) := by decide +kernel
theorem dL_law_912 : decode cL_law 912 = .ok (.iload_n 3, 1) := by decide +kernel
theorem dL_law_913 : decode cL_law 913 = .ok (.iconst 3, 1) := by decide +kernel
theorem dL_law_914 : decode cL_law 914 = .ok (.iadd, 1) := by decide +kernel
theorem dL_law_915 : decode cL_law 915 = .ok (.iaload, 1) := by decide +kernel
theorem dL_law_916 : decode cL_law 916 = .ok (.aload_n 0, 1) := by decide +kernel
theorem dL_law_917 : decode cL_law 917 = .ok (.iload_n 3, 1) := by decide +kernel
theorem dL_law_918 : decode cL_law 918 = .ok (.iconst 4, 1) := by decide +kernel
theorem dL_law_919 : decode cL_law 919 = .ok (.iadd, 1) := by decide +kernel
theorem dL_law_920 : decode cL_law 920 = .ok (.iaload, 1) := by decide +kernel
theorem dL_law_921 : decode cL_law 921 = .ok (.aload_n 0, 1) := by decide +kernel
theorem dL_law_922 : decode cL_law 922 = .ok (.iload_n 3, 1) := by decide +kernel
theorem dL_law_923 : decode cL_law 923 = .ok (.iconst 5, 1) := by decide +kernel
theorem dL_law_924 : decode cL_law 924 = .ok (.iadd, 1) := by decide +kernel
theorem dL_law_925 : decode cL_law 925 = .ok (.iaload, 1) := by decide +kernel
theorem dL_law_926 : decode cL_law 926 = .ok (.invokevirtual 114, 3) := by decide +kernel
theorem dL_law_929 : decode cL_law 929 = .ok (.if_icmp .eq 133, 3) := by decide +kernel
theorem dL_law_932 : decode cL_law 932 = .ok (.iconst 0, 1) := by decide +kernel
theorem dL_law_933 : decode cL_law 933 = .ok (.ireturn, 1) := by decide +kernel
theorem dL_law_934 : decode cL_law 934 = .ok (.aload_n 1, 1) := by decide +kernel
theorem dL_law_935 : decode cL_law 935 = .ok (.aload_n 0, 1) := by decide +kernel
theorem dL_law_936 : decode cL_law 936 = .ok (.iload_n 3, 1) := by decide +kernel
theorem dL_law_937 : decode cL_law 937 = .ok (.iconst 1, 1) := by decide +kernel
theorem dL_law_938 : decode cL_law 938 = .ok (.iadd, 1) := by decide +kernel
theorem dL_law_939 : decode cL_law 939 = .ok (.iaload, 1) := by decide +kernel
theorem dL_law_940 : decode cL_law 940 = .ok (.invokevirtual 115, 3) := by decide +kernel
theorem dL_law_943 : decode cL_law 943 = .ok (.aload_n 2, 1) := by decide +kernel
theorem dL_law_944 : decode cL_law 944 = .ok (.aload_n 0, 1) := by decide +kernel
theorem dL_law_945 : decode cL_law 945 = .ok (.iload_n 3, 1) := by decide +kernel
theorem dL_law_946 : decode cL_law 946 = .ok (.iconst 1, 1) := by decide +kernel
theorem dL_law_947 : decode cL_law 947 = .ok (.iadd, 1) := by decide +kernel
theorem dL_law_948 : decode cL_law 948 = .ok (.iaload, 1) := by decide +kernel
theorem dL_law_949 : decode cL_law 949 = .ok (.invokevirtual 118, 3) := by decide +kernel
theorem dL_law_952 : decode cL_law 952 = .ok (.if_icmp .eq 110, 3) := by decide +kernel
theorem dL_law_955 : decode cL_law 955 = .ok (.iconst 0, 1) := by decide +kernel
theorem dL_law_956 : decode cL_law 956 = .ok (.ireturn, 1) := by decide +kernel
theorem dL_law_957 : decode cL_law 957 = .ok (.aload_n 1, 1) := by decide +kernel
theorem dL_law_958 : decode cL_law 958 = .ok (.aload_n 0, 1) := by decide +kernel
theorem dL_law_959 : decode cL_law 959 = .ok (.iload_n 3, 1) := by decide +kernel
theorem dL_law_960 : decode cL_law 960 = .ok (.iconst 1, 1) := by decide +kernel
theorem dL_law_961 : decode cL_law 961 = .ok (.iadd, 1) := by decide +kernel
theorem dL_law_962 : decode cL_law 962 = .ok (.iaload, 1) := by decide +kernel
theorem dL_law_963 : decode cL_law 963 = .ok (.invokevirtual 119, 3) := by decide +kernel
theorem dL_law_966 : decode cL_law 966 = .ok (.aload_n 2, 1) := by decide +kernel
theorem dL_law_967 : decode cL_law 967 = .ok (.aload_n 0, 1) := by decide +kernel
theorem dL_law_968 : decode cL_law 968 = .ok (.iload_n 3, 1) := by decide +kernel
theorem dL_law_969 : decode cL_law 969 = .ok (.iconst 1, 1) := by decide +kernel
theorem dL_law_970 : decode cL_law 970 = .ok (.iadd, 1) := by decide +kernel
theorem dL_law_971 : decode cL_law 971 = .ok (.iaload, 1) := by decide +kernel
theorem dL_law_972 : decode cL_law 972 = .ok (.invokevirtual 122, 3) := by decide +kernel
theorem dL_law_975 : decode cL_law 975 = .ok (.if_icmp .eq 87, 3) := by decide +kernel
theorem dL_law_978 : decode cL_law 978 = .ok (.iconst 0, 1) := by decide +kernel
theorem dL_law_979 : decode cL_law 979 = .ok (.ireturn, 1) := by decide +kernel
theorem dL_law_980 : decode cL_law 980 = .ok (.aload_n 1, 1) := by decide +kernel
theorem dL_law_981 : decode cL_law 981 = .ok (.aload_n 0, 1) := by decide +kernel
theorem dL_law_982 : decode cL_law 982 = .ok (.iload_n 3, 1) := by decide +kernel
theorem dL_law_983 : decode cL_law 983 = .ok (.iconst 1, 1) := by decide +kernel
theorem dL_law_984 : decode cL_law 984 = .ok (.iadd, 1) := by decide +kernel
theorem dL_law_985 : decode cL_law 985 = .ok (.iaload, 1) := by decide +kernel
theorem dL_law_986 : decode cL_law 986 = .ok (.aload_n 0, 1) := by decide +kernel
theorem dL_law_987 : decode cL_law 987 = .ok (.iload_n 3, 1) := by decide +kernel
theorem dL_law_988 : decode cL_law 988 = .ok (.iconst 2, 1) := by decide +kernel
theorem dL_law_989 : decode cL_law 989 = .ok (.iadd, 1) := by decide +kernel
theorem dL_law_990 : decode cL_law 990 = .ok (.iaload, 1) := by decide +kernel
theorem dL_law_991 : decode cL_law 991 = .ok (.invokevirtual 123, 3) := by decide +kernel
theorem dL_law_994 : decode cL_law 994 = .ok (.aload_n 2, 1) := by decide +kernel
theorem dL_law_995 : decode cL_law 995 = .ok (.aload_n 0, 1) := by decide +kernel
theorem dL_law_996 : decode cL_law 996 = .ok (.iload_n 3, 1) := by decide +kernel
theorem dL_law_997 : decode cL_law 997 = .ok (.iconst 1, 1) := by decide +kernel
theorem dL_law_998 : decode cL_law 998 = .ok (.iadd, 1) := by decide +kernel
theorem dL_law_999 : decode cL_law 999 = .ok (.iaload, 1) := by decide +kernel
theorem dL_law_1000 : decode cL_law 1000 = .ok (.aload_n 0, 1) := by decide +kernel
theorem dL_law_1001 : decode cL_law 1001 = .ok (.iload_n 3, 1) := by decide +kernel
theorem dL_law_1002 : decode cL_law 1002 = .ok (.iconst 2, 1) := by decide +kernel
theorem dL_law_1003 : decode cL_law 1003 = .ok (.iadd, 1) := by decide +kernel
theorem dL_law_1004 : decode cL_law 1004 = .ok (.iaload, 1) := by decide +kernel
theorem dL_law_1005 : decode cL_law 1005 = .ok (.invokevirtual 126, 3) := by decide +kernel
theorem dL_law_1008 : decode cL_law 1008 = .ok (.if_icmp .eq 54, 3) := by decide +kernel
theorem dL_law_1011 : decode cL_law 1011 = .ok (.iconst 0, 1) := by decide +kernel
theorem dL_law_1012 : decode cL_law 1012 = .ok (.ireturn, 1) := by decide +kernel
theorem dL_law_1013 : decode cL_law 1013 = .ok (.aload_n 1, 1) := by decide +kernel
theorem dL_law_1014 : decode cL_law 1014 = .ok (.invokevirtual 127, 3) := by decide +kernel
theorem dL_law_1017 : decode cL_law 1017 = .ok (.aload_n 2, 1) := by decide +kernel
theorem dL_law_1018 : decode cL_law 1018 = .ok (.invokevirtual 130, 3) := by decide +kernel
theorem dL_law_1021 : decode cL_law 1021 = .ok (.if_icmp .eq 41, 3) := by decide +kernel
theorem dL_law_1024 : decode cL_law 1024 = .ok (.iconst 0, 1) := by decide +kernel
theorem dL_law_1025 : decode cL_law 1025 = .ok (.ireturn, 1) := by decide +kernel
theorem dL_law_1026 : decode cL_law 1026 = .ok (.aload_n 1, 1) := by decide +kernel
theorem dL_law_1027 : decode cL_law 1027 = .ok (.invokevirtual 131, 3) := by decide +kernel
theorem dL_law_1030 : decode cL_law 1030 = .ok (.aload_n 2, 1) := by decide +kernel
theorem dL_law_1031 : decode cL_law 1031 = .ok (.invokevirtual 134, 3) := by decide +kernel
theorem dL_law_1034 : decode cL_law 1034 = .ok (.if_icmp .eq 28, 3) := by decide +kernel
theorem dL_law_1037 : decode cL_law 1037 = .ok (.iconst 0, 1) := by decide +kernel
theorem dL_law_1038 : decode cL_law 1038 = .ok (.ireturn, 1) := by decide +kernel
theorem dL_law_1039 : decode cL_law 1039 = .ok (.aload_n 1, 1) := by decide +kernel
theorem dL_law_1040 : decode cL_law 1040 = .ok (.aload_n 0, 1) := by decide +kernel
theorem dL_law_1041 : decode cL_law 1041 = .ok (.iload_n 3, 1) := by decide +kernel
theorem dL_law_1042 : decode cL_law 1042 = .ok (.iconst 1, 1) := by decide +kernel
theorem dL_law_1043 : decode cL_law 1043 = .ok (.iadd, 1) := by decide +kernel
theorem dL_law_1044 : decode cL_law 1044 = .ok (.iaload, 1) := by decide +kernel
theorem dL_law_1045 : decode cL_law 1045 = .ok (.invokevirtual 135, 3) := by decide +kernel
theorem dL_law_1048 : decode cL_law 1048 = .ok (.aload_n 2, 1) := by decide +kernel
theorem dL_law_1049 : decode cL_law 1049 = .ok (.aload_n 0, 1) := by decide +kernel
theorem dL_law_1050 : decode cL_law 1050 = .ok (.iload_n 3, 1) := by decide +kernel
theorem dL_law_1051 : decode cL_law 1051 = .ok (.iconst 1, 1) := by decide +kernel
theorem dL_law_1052 : decode cL_law 1052 = .ok (.iadd, 1) := by decide +kernel
theorem dL_law_1053 : decode cL_law 1053 = .ok (.iaload, 1) := by decide +kernel
theorem dL_law_1054 : decode cL_law 1054 = .ok (.invokevirtual 138, 3) := by decide +kernel
theorem dL_law_1057 : decode cL_law 1057 = .ok (.if_icmp .eq 5, 3) := by decide +kernel
theorem dL_law_1060 : decode cL_law 1060 = .ok (.iconst 0, 1) := by decide +kernel
theorem dL_law_1061 : decode cL_law 1061 = .ok (.ireturn, 1) := by decide +kernel
theorem dL_law_1062 : decode cL_law 1062 = .ok (.iinc 3 6, 3) := by decide +kernel
theorem dL_law_1065 : decode cL_law 1065 = .ok (.goto (-1047), 3) := by decide +kernel
theorem dL_law_1068 : decode cL_law 1068 = .ok (.iconst 1, 1) := by decide +kernel
theorem dL_law_1069 : decode cL_law 1069 = .ok (.ireturn, 1) := by decide +kernel
end
section
/-! plain facts on numbers and arrays, to paste: each family by itself; over the kit's rows on nI and upd -/
/-! ===== order of ints, in all its forms, and through longs ===== -/
theorem fa_lt (a b : Int32) : a < b ↔ a.toInt < b.toInt := Int32.lt_iff_toInt_lt
theorem fa_le (a b : Int32) : a ≤ b ↔ a.toInt ≤ b.toInt := Int32.le_iff_toInt_le
theorem fa_eq (a b : Int32) : a = b ↔ a.toInt = b.toInt := Int32.toInt_inj.symm
theorem fa_lt64 (a b : Int64) : a < b ↔ a.toInt < b.toInt := Int64.lt_iff_toInt_lt
theorem fa_le64 (a b : Int64) : a ≤ b ↔ a.toInt ≤ b.toInt := Int64.le_iff_toInt_le
theorem fa_eq64 (a b : Int64) : a = b ↔ a.toInt = b.toInt := Int64.toInt_inj.symm
/-- a comparison of two ints taken as longs -/
theorem fa_wide_lt (a b : Int32) : a.toInt64 < b.toInt64 ↔ a < b := by rw [fa_lt64, fa_lt, Int32.toInt_toInt64, Int32.toInt_toInt64]
theorem fa_wide_le (a b : Int32) : a.toInt64 ≤ b.toInt64 ↔ a ≤ b := by rw [fa_le64, fa_le, Int32.toInt_toInt64, Int32.toInt_toInt64]
theorem fa_wide_eq (a b : Int32) : a.toInt64 = b.toInt64 ↔ a = b := by rw [fa_eq64, fa_eq, Int32.toInt_toInt64, Int32.toInt_toInt64]
/-- one strict comparison gives all the others -/
theorem fa_of_lt {a b : Int32} (h : a < b) : a ≤ b ∧ ¬ b ≤ a ∧ ¬ b < a ∧ a ≠ b ∧ b ≠ a := by
  rw [fa_lt] at h
  refine ⟨?_, ?_, ?_, ?_, ?_⟩
  · rw [fa_le]; omega
  · rw [fa_le]; omega
  · rw [fa_lt]; omega
  · intro e; rw [fa_eq] at e; omega
  · intro e; rw [fa_eq] at e; omega
theorem fa_of_nlt {a b : Int32} (h : ¬ a < b) : b ≤ a := by
  rw [fa_lt] at h
  rw [fa_le]
  omega
theorem fa_of_nle {a b : Int32} (h : ¬ a ≤ b) : b < a := by
  rw [fa_le] at h
  rw [fa_lt]
  omega
theorem fa_le_ne {a b : Int32} (h : a ≤ b) (h2 : a ≠ b) : a < b := by
  rw [fa_le] at h
  rw [fa_lt]
  have h3 : a.toInt ≠ b.toInt := fun e => h2 ((fa_eq a b).mpr e)
  omega
theorem fa_three (a b : Int32) : a < b ∨ a = b ∨ b < a := by
  rw [fa_lt, fa_lt, fa_eq]
  omega
theorem fa_trans {a b c : Int32} (h : a < b) (h2 : b ≤ c) : a < c := by
  rw [fa_lt] at *
  rw [fa_le] at h2
  omega
/-! ===== small literals as numbers ===== -/
theorem fa_lit (n : Nat) : (OfNat.ofNat n : Int32) = nI n := rfl
theorem fa_litL (n : Nat) : (OfNat.ofNat n : Int64) = lN n := rfl
/-! ===== bits of a number: 'or', masks, one bit ===== -/
theorem fa_and (a b : Nat) : nI a &&& nI b = nI (a &&& b) := by
  apply Int32.toBitVec_inj.1
  show BitVec.ofNat 32 a &&& BitVec.ofNat 32 b = BitVec.ofNat 32 (a &&& b)
  apply BitVec.eq_of_getLsbD_eq
  intro i hi
  simp [hi]
theorem fa_or (a b : Nat) : nI a ||| nI b = nI (a ||| b) := by
  apply Int32.toBitVec_inj.1
  show BitVec.ofNat 32 a ||| BitVec.ofNat 32 b = BitVec.ofNat 32 (a ||| b)
  apply BitVec.eq_of_getLsbD_eq
  intro i hi
  simp [hi]
/-- a remainder by a power of two, as a mask -/
theorem fa_mask (n k : Nat) : nI n &&& nI (2 ^ k - 1) = nI (n % 2 ^ k) := by rw [fa_and, Nat.and_two_pow_sub_one_eq_mod]
/-- 'or' of a high part and a low one that don't meet is their sum -/
theorem fa_or_sum {a k : Nat} (b : Nat) (h : a < 2 ^ k) : nI (2 ^ k * b) ||| nI a = nI (2 ^ k * b + a) := by rw [fa_or, Nat.two_pow_add_eq_or_of_lt h]
/-- one bit, by 'and' with a power of two -/
theorem fa_bit {n j : Nat} (hj : j < 31) : nI n &&& nI (2 ^ j) = 0 ↔ n.testBit j = false := by
  have h2 : (2 : Nat) ^ j < 2 ^ 31 := Nat.pow_lt_pow_right (by decide) hj
  have hle : n &&& 2 ^ j ≤ 2 ^ j := Nat.and_le_right
  have e : n &&& 2 ^ j = 0 ↔ n.testBit j = false := by
    constructor
    · intro h
      have h1 : (n &&& 2 ^ j).testBit j = false := by rw [h]; simp
      rw [Nat.testBit_and] at h1
      first | simpa using h1 | simpa [Nat.testBit_two_pow_self] using h1 | simpa [Nat.testBit_two_pow] using h1
    · intro h
      apply Nat.eq_of_testBit_eq
      intro i
      rw [Nat.testBit_and]
      by_cases hi : j = i
      · subst hi; simp [h]
      · first | (simp [Nat.testBit_two_pow, hi]; done) | (simp [Nat.testBit_two_pow_of_ne hi]; done)
  rw [fa_and]
  constructor
  · intro h
    apply e.mp
    rcases Nat.eq_zero_or_pos (n &&& 2 ^ j) with z | z
    · exact z
    · exact absurd h (nI_ne0 z (Nat.lt_of_le_of_lt hle h2))
  · intro h
    rw [e.mpr h]; exact nI_0
/-- a remainder by a power of two of a number that isn't negative, as Java divides -/
theorem fa_rem {a k : Nat} (ha : a < 2 ^ 31) (hk : k < 31) : nI a - nI a / nI (2 ^ k) * nI (2 ^ k) = nI (a % 2 ^ k) := pk_rem ha (Nat.two_pow_pos k) (Nat.pow_lt_pow_right (by decide) hk)
/-! ===== cuts to a byte, a short ===== -/
theorem fa_byte_xor (x y : Int32) : (x ^^^ y).toInt8 = x.toInt8 ^^^ y.toInt8 := by
  apply Int8.toBitVec_inj.1
  apply BitVec.eq_of_getLsbD_eq
  intro i hi
  first | (simp [hi]; done) | (simp [hi, BitVec.getLsbD_setWidth, BitVec.getLsbD_signExtend]; done)
theorem fa_short_xor (x y : Int32) : (x ^^^ y).toInt16 = x.toInt16 ^^^ y.toInt16 := by
  apply Int16.toBitVec_inj.1
  apply BitVec.eq_of_getLsbD_eq
  intro i hi
  first | (simp [hi]; done) | (simp [hi, BitVec.getLsbD_setWidth, BitVec.getLsbD_signExtend]; done)
/-- the cut to a byte sees the low byte alone -/
theorem fa_byte_low (x : Int32) : (x &&& 255).toInt8 = x.toInt8 := by
  apply Int8.toBitVec_inj.1
  apply BitVec.eq_of_getLsbD_eq
  intro i hi
  have h2 : (255 : Int32).toBitVec.getLsbD i = true := by
    have : ∀ j : Fin 8, (255 : Int32).toBitVec.getLsbD j.val = true := by decide +kernel
    exact this ⟨i, hi⟩
  have h4 : (x &&& 255).toBitVec.getLsbD i = x.toBitVec.getLsbD i := by
    show (x.toBitVec &&& (255 : Int32).toBitVec).getLsbD i = _
    rw [BitVec.getLsbD_and, h2, Bool.and_true]
  have h3 : i < 32 := by omega
  first
    | (show (((x &&& 255).toBitVec).signExtend 8).getLsbD i = (x.toBitVec.signExtend 8).getLsbD i; rw [BitVec.getLsbD_signExtend, BitVec.getLsbD_signExtend, if_pos h3, if_pos h3, h4])
    | (show (((x &&& 255).toBitVec).setWidth 8).getLsbD i = (x.toBitVec.setWidth 8).getLsbD i; rw [BitVec.getLsbD_setWidth, BitVec.getLsbD_setWidth, h4])
    | (simp [hi, h3, h4]; done)
theorem fa_short_low (x : Int32) : (x &&& 65535).toInt16 = x.toInt16 := by
  apply Int16.toBitVec_inj.1
  apply BitVec.eq_of_getLsbD_eq
  intro i hi
  have h2 : (65535 : Int32).toBitVec.getLsbD i = true := by
    have : ∀ j : Fin 16, (65535 : Int32).toBitVec.getLsbD j.val = true := by decide +kernel
    exact this ⟨i, hi⟩
  have h4 : (x &&& 65535).toBitVec.getLsbD i = x.toBitVec.getLsbD i := by
    show (x.toBitVec &&& (65535 : Int32).toBitVec).getLsbD i = _
    rw [BitVec.getLsbD_and, h2, Bool.and_true]
  have h3 : i < 32 := by omega
  first
    | (show (((x &&& 65535).toBitVec).signExtend 16).getLsbD i = (x.toBitVec.signExtend 16).getLsbD i; rw [BitVec.getLsbD_signExtend, BitVec.getLsbD_signExtend, if_pos h3, if_pos h3, h4])
    | (show (((x &&& 65535).toBitVec).setWidth 16).getLsbD i = (x.toBitVec.setWidth 16).getLsbD i; rw [BitVec.getLsbD_setWidth, BitVec.getLsbD_setWidth, h4])
    | (simp [hi, h3, h4]; done)
/-- a small number is its own byte, its own short -/
theorem fa_byte_small {n : Nat} (h : n < 128) : (nI n).toInt8.toInt32 = nI n := by
  have : ∀ j : Fin 128, (nI j.val).toInt8.toInt32 = nI j.val := by decide +kernel
  exact this ⟨n, h⟩
/-! ===== absolute difference ===== -/
theorem fa_absdiff {a b : Nat} (ha : a < 2 ^ 31) (hb : b < 2 ^ 31) : (if nI a < nI b then nI b - nI a else nI a - nI b) = nI (if a < b then b - a else a - b) := by
  by_cases h : a < b
  · rw [if_pos (nI_lt h hb), if_pos h]
    exact pk_sub (Nat.le_of_lt h)
  · rw [if_neg (nI_nlt (Nat.le_of_not_lt h) ha), if_neg h]
    exact pk_sub (Nat.le_of_not_lt h)
/-! ===== an array behind i stores, a conditional store, a row copied ===== -/
/-- f where k < i, what stood there else -/
def fa_fill {α : Type} (f g : Nat → α) (i : Nat) : Nat → α := fun k => if k < i then f k else g k
theorem fa_fill_0 {α : Type} (f g : Nat → α) : fa_fill f g 0 = g := funext fun k => if_neg (Nat.not_lt_zero k)
theorem fa_fill_in {α : Type} {f g : Nat → α} {i k : Nat} (h : k < i) : fa_fill f g i k = f k := if_pos h
theorem fa_fill_out {α : Type} {f g : Nat → α} {i k : Nat} (h : i ≤ k) : fa_fill f g i k = g k := if_neg (Nat.not_lt.mpr h)
theorem fa_fill_succ (f g : Nat → Int32) (i : Nat) : upd (fa_fill f g i) i (f i) = fa_fill f g (i + 1) := by
  funext k
  by_cases e : k = i
  · subst e
    rw [pk_us]
    exact (if_pos (Nat.lt_succ_self k)).symm
  · rw [pk_un e]
    by_cases h : k < i
    · rw [fa_fill_in h, fa_fill_in (Nat.lt_succ_of_lt h)]
    · rw [fa_fill_out (Nat.le_of_not_lt h), fa_fill_out (by omega)]
/-- a store that changes nothing -/
theorem fa_upd_same {f : Nat → Int32} {i : Nat} {x : Int32} (h : f i = x) : upd f i x = f := by
  funext k
  by_cases e : k = i
  · subst e
    rw [pk_us, h]
  · rw [pk_un e]
/-- a store under a condition, told as one -/
theorem fa_upd_if (c : Prop) [Decidable c] (f : Nat → Int32) (i : Nat) (x : Int32) : (if c then upd f i x else f) = upd f i (if c then x else f i) := by
  by_cases h : c
  · rw [if_pos h, if_pos h]
  · rw [if_neg h, if_neg h, fa_upd_same rfl]
/-- two stores at one place, at two -/
theorem fa_upd_twice (f : Nat → Int32) (i : Nat) (x y : Int32) : upd (upd f i x) i y = upd f i y := by
  funext k
  by_cases e : k = i
  · subst e
    rw [pk_us, pk_us]
  · rw [pk_un e, pk_un e, pk_un e]
theorem fa_upd_swap (f : Nat → Int32) {i j : Nat} (h : i ≠ j) (x y : Int32) : upd (upd f i x) j y = upd (upd f j y) i x := by
  funext k
  by_cases e : k = i
  · subst e
    rw [pk_un h, pk_us, pk_us]
  · by_cases e2 : k = j
    · subst e2
      rw [pk_us, pk_un e, pk_us]
    · rw [pk_un e2, pk_un e, pk_un e, pk_un e2]
/-! ===== the first index with a property; a count ===== -/
/-- the first k < n with p k, n if there is none -/
def fa_first (p : Nat → Bool) : Nat → Nat
  | 0 => 0
  | n + 1 => if fa_first p n < n then fa_first p n else if p n then n else n + 1
theorem fa_first_le (p : Nat → Bool) : ∀ n, fa_first p n ≤ n
  | 0 => Nat.le_refl 0
  | n + 1 => by
    have ih := fa_first_le p n
    unfold fa_first
    split
    · omega
    · split
      · omega
      · omega
theorem fa_first_no (p : Nat → Bool) : ∀ n k, k < fa_first p n → p k = false
  | 0, k, h => absurd h (Nat.not_lt_zero k)
  | n + 1, k, h => by
    have ih := fa_first_no p n
    have hl := fa_first_le p n
    unfold fa_first at h
    split at h
    · exact ih k h
    · rename_i h1
      split at h
      · exact ih k (by omega)
      · rename_i h2
        by_cases e : k = n
        · subst e
          exact Bool.eq_false_iff.mpr h2
        · exact ih k (by omega)
theorem fa_first_yes (p : Nat → Bool) : ∀ n, fa_first p n < n → p (fa_first p n) = true
  | 0, h => absurd h (Nat.not_lt_zero _)
  | n + 1, h => by
    have ih := fa_first_yes p n
    have hl := fa_first_le p n
    unfold fa_first at h ⊢
    split at h
    · rename_i h1
      rw [if_pos h1]
      exact ih h1
    · rename_i h1
      rw [if_neg h1]
      split at h
      · rename_i h2
        rw [if_pos h2]
        exact h2
      · omega
/-- how many k < n have p k -/
def fa_cnt (p : Nat → Bool) : Nat → Nat
  | 0 => 0
  | n + 1 => fa_cnt p n + if p n then 1 else 0
theorem fa_cnt_le (p : Nat → Bool) : ∀ n, fa_cnt p n ≤ n
  | 0 => Nat.le_refl 0
  | n + 1 => by
    have ih := fa_cnt_le p n
    unfold fa_cnt
    split
    · omega
    · omega
theorem fa_cnt_yes {p : Nat → Bool} {n : Nat} (h : p n = true) : fa_cnt p (n + 1) = fa_cnt p n + 1 := by rw [fa_cnt, if_pos h]
theorem fa_cnt_no {p : Nat → Bool} {n : Nat} (h : p n = false) : fa_cnt p (n + 1) = fa_cnt p n := by rw [fa_cnt, if_neg (by rw [h]; decide)]; rfl
theorem fa_cnt_cong {p q : Nat → Bool} : ∀ {n : Nat}, (∀ k, k < n → p k = q k) → fa_cnt p n = fa_cnt q n
  | 0, _ => rfl
  | n + 1, h => by rw [fa_cnt, fa_cnt, fa_cnt_cong (fun k hk => h k (Nat.lt_succ_of_lt hk)), h n (Nat.lt_succ_self n)]
/-! ===== an answer carried into a post; a branch on a boolean answer ===== -/
theorem fa_post {α : Type} {P : α → Prop} {x y : α} (h : x = y) (hp : P y) : P x := h ▸ hp
theorem fa_post2 {α β : Type} {P : α → β → Prop} {x y : α} {u v : β} (h : x = y) (h2 : u = v) (hp : P y v) : P x u := h ▸ h2 ▸ hp
theorem fa_bool {r : Int32} {b : Bool} (h : r = if b then 1 else 0) : (r = 0 ↔ b = false) ∧ (¬ r = 0 ↔ b = true) := by
  subst h
  cases b
  · exact ⟨⟨fun _ => rfl, fun _ => rfl⟩, ⟨fun h => absurd rfl h, fun h => absurd h (by decide)⟩⟩
  · exact ⟨⟨fun h => absurd h (by decide), fun h => absurd h (by decide)⟩, ⟨fun _ => rfl, fun _ => by decide⟩⟩
/-- a boolean's narrowing changes nothing -/
theorem fa_bool_and {r : Int32} (h : r = 0 ∨ r = 1) : r &&& 1 = r := by
  rcases h with rfl | rfl
  · decide
  · decide
theorem fa_bool_prop {c : Prop} [Decidable c] {r : Int32} (h : r = if c then 1 else 0) : (r = 0 ↔ ¬ c) ∧ (¬ r = 0 ↔ c) := by
  subst h
  by_cases hc : c
  · rw [if_pos hc]
    exact ⟨⟨fun h => absurd h (by decide), fun h => absurd hc h⟩, ⟨fun _ => hc, fun _ => by decide⟩⟩
  · rw [if_neg hc]
    exact ⟨⟨fun _ => hc, fun _ => rfl⟩, ⟨fun h => absurd rfl h, fun h => absurd h hc⟩⟩
/-! plain facts to paste, each family by itself; over the kit's nI, lN and upd -/
/-! ===== drawers: more things than places ===== -/
theorem fb_holes : ∀ (m n : Nat) (f : Nat → Nat), (∀ i, i < n → f i < m) → (∀ i j, i < j → j < n → f i ≠ f j) → n ≤ m := by
  intro m
  induction m with
  | zero =>
    intro n f h1 _
    rcases Nat.eq_zero_or_pos n with h | h
    · omega
    · exact absurd (h1 0 h) (Nat.not_lt_zero _)
  | succ m ih =>
    intro n f h1 h2
    by_cases hx : ∃ i, i < n ∧ f i = m
    · obtain ⟨a, ha, hfa⟩ := hx
      have hg := ih (n - 1) (fun i => if i < a then f i else f (i + 1)) (by
        intro i hi
        by_cases q : i < a
        · simp only [if_pos q]
          have b1 := h1 i (by omega)
          have b2 := h2 i a q ha
          omega
        · simp only [if_neg q]
          have b1 := h1 (i + 1) (by omega)
          have b2 := h2 a (i + 1) (by omega) (by omega)
          omega) (by
        intro i j hij hj
        by_cases q : i < a
        · by_cases r : j < a
          · simp only [if_pos q, if_pos r]
            exact h2 i j hij (by omega)
          · simp only [if_pos q, if_neg r]
            exact h2 i (j + 1) (by omega) (by omega)
        · have r : ¬ j < a := by omega
          simp only [if_neg q, if_neg r]
          exact h2 (i + 1) (j + 1) (by omega) (by omega))
      omega
    · have hg := ih n f (fun i hi => by
        have b1 := h1 i hi
        have b2 : f i ≠ m := fun e => hx ⟨i, hi, e⟩
        omega) h2
      omega
/-- two of them in one place -/
theorem fb_twice {m n : Nat} {f : Nat → Nat} (h : ∀ i, i < n → f i < m) (hm : m < n) : ∃ i j, i < j ∧ j < n ∧ f i = f j := by
  refine Classical.byContradiction fun hx => ?_
  have := fb_holes m n f h (fun i j hij hj e => hx ⟨i, j, hij, hj, e⟩)
  omega
/-- as many as places, none twice: each place is taken -/
theorem fb_onto {n : Nat} {f : Nat → Nat} (h : ∀ i, i < n → f i < n) (h2 : ∀ i j, i < j → j < n → f i ≠ f j) {y : Nat} (hy : y < n) : ∃ i, i < n ∧ f i = y := by
  refine Classical.byContradiction fun hx => ?_
  have hne : ∀ i, i < n → f i ≠ y := fun i hi e => hx ⟨i, hi, e⟩
  have := fb_holes (n - 1) n (fun i => if f i < y then f i else f i - 1) (by
    intro i hi
    have b1 := h i hi
    have b2 := hne i hi
    by_cases q : f i < y
    · simp only [if_pos q]; omega
    · simp only [if_neg q]; omega) (by
    intro i j hij hj
    have b1 := hne i (by omega)
    have b2 := hne j hj
    have b3 := h2 i j hij hj
    by_cases q : f i < y
    · by_cases r : f j < y
      · simp only [if_pos q, if_pos r]; exact b3
      · simp only [if_pos q, if_neg r]; omega
    · by_cases r : f j < y
      · simp only [if_neg q, if_pos r]; omega
      · simp only [if_neg q, if_neg r]; omega)
  omega
/-! ===== how many places have a property ===== -/
def fb_ct (p : Nat → Bool) : Nat → Nat
  | 0 => 0
  | n + 1 => fb_ct p n + (if p n then 1 else 0)
theorem fb_ct_succ (p : Nat → Bool) (n : Nat) : fb_ct p (n + 1) = fb_ct p n + (if p n then 1 else 0) := rfl
theorem fb_ct_le (p : Nat → Bool) : ∀ n, fb_ct p n ≤ n
  | 0 => Nat.le_refl _
  | n + 1 => by
    have h := fb_ct_le p n
    rw [fb_ct_succ]
    split <;> omega
theorem fb_ct_step (p : Nat → Bool) (m : Nat) : ∀ n, fb_ct p m ≤ fb_ct p (m + n)
  | 0 => Nat.le_refl _
  | n + 1 => by
    have h := fb_ct_step p m n
    show fb_ct p m ≤ fb_ct p (m + n + 1)
    rw [fb_ct_succ]
    omega
theorem fb_ct_mono (p : Nat → Bool) {m n : Nat} (h : m ≤ n) : fb_ct p m ≤ fb_ct p n := by
  have := fb_ct_step p m (n - m)
  rwa [Nat.add_sub_cancel' h] at this
theorem fb_ct_cong {p q : Nat → Bool} : ∀ {n : Nat}, (∀ k, k < n → p k = q k) → fb_ct p n = fb_ct q n
  | 0, _ => rfl
  | n + 1, h => by
    rw [fb_ct_succ, fb_ct_succ, fb_ct_cong (fun k hk => h k (by omega)), h n (by omega)]
/-- one place changed -/
theorem fb_ct_out (p : Nat → Bool) (b : Bool) {i n : Nat} (h : n ≤ i) : fb_ct (fun k => if k = i then b else p k) n = fb_ct p n :=
  fb_ct_cong fun k hk => if_neg (by omega)
theorem fb_ct_upd (p : Nat → Bool) (b : Bool) {i : Nat} : ∀ {n : Nat}, i < n → fb_ct (fun k => if k = i then b else p k) n + (if p i then 1 else 0) = fb_ct p n + (if b then 1 else 0)
  | 0, h => absurd h (Nat.not_lt_zero i)
  | n + 1, h => by
    rw [fb_ct_succ, fb_ct_succ]
    rcases Nat.lt_or_ge i n with q | q
    · have := fb_ct_upd p b q
      have e : (if n = i then b else p n) = p n := if_neg (by omega)
      rw [e]
      omega
    · have e : i = n := by omega
      subst e
      rw [fb_ct_out p b (Nat.le_refl _)]
      simp only [if_true]
      omega
theorem fb_ct_sub {p q : Nat → Bool} : ∀ {n : Nat}, (∀ k, k < n → p k = true → q k = true) → fb_ct p n ≤ fb_ct q n
  | 0, _ => Nat.le_refl _
  | n + 1, h => by
    have h1 := fb_ct_sub (n := n) (p := p) (q := q) (fun k hk => h k (by omega))
    have h2 := h n (by omega)
    rw [fb_ct_succ, fb_ct_succ]
    cases hp : p n <;> cases hq : q n <;> simp_all <;> omega
theorem fb_ct_or {p q : Nat → Bool} : ∀ {n : Nat}, (∀ k, k < n → ¬ (p k = true ∧ q k = true)) → fb_ct (fun k => p k || q k) n = fb_ct p n + fb_ct q n
  | 0, _ => rfl
  | n + 1, h => by
    have h1 := fb_ct_or (n := n) (p := p) (q := q) (fun k hk => h k (by omega))
    have h2 := h n (by omega)
    rw [fb_ct_succ, fb_ct_succ, fb_ct_succ, h1]
    cases hp : p n <;> cases hq : q n <;> simp_all <;> omega
theorem fb_ct_not (p : Nat → Bool) : ∀ n, fb_ct p n + fb_ct (fun k => !p k) n = n
  | 0 => rfl
  | n + 1 => by
    have h := fb_ct_not p n
    rw [fb_ct_succ, fb_ct_succ]
    cases p n <;> simp <;> omega
theorem fb_ct_split (p : Nat → Bool) (m : Nat) : ∀ n, fb_ct p (m + n) = fb_ct p m + fb_ct (fun k => p (m + k)) n
  | 0 => rfl
  | n + 1 => by
    have h := fb_ct_split p m n
    show fb_ct p (m + n + 1) = _
    rw [fb_ct_succ, fb_ct_succ, h, Nat.add_assoc]
theorem fb_ct_zero {p : Nat → Bool} : ∀ {n : Nat}, fb_ct p n = 0 ↔ ∀ k, k < n → p k = false
  | 0 => ⟨fun _ k hk => absurd hk (Nat.not_lt_zero k), fun _ => rfl⟩
  | n + 1 => by
    have h := fb_ct_zero (p := p) (n := n)
    rw [fb_ct_succ]
    constructor
    · intro e k hk
      have e1 : fb_ct p n = 0 := by omega
      rcases Nat.lt_or_ge k n with q | q
      · exact h.mp e1 k q
      · have ek : k = n := by omega
        subst ek
        cases hp : p k
        · rfl
        · simp [hp] at e
    · intro a
      rw [h.mpr (fun k hk => a k (by omega)), a n (by omega)]
      rfl
theorem fb_ct_pos {p : Nat → Bool} {n : Nat} : 0 < fb_ct p n ↔ ∃ k, k < n ∧ p k = true := by
  constructor
  · intro h
    refine Classical.byContradiction fun hx => ?_
    have := fb_ct_zero.mpr (fun k hk => by
      cases hp : p k
      · rfl
      · exact absurd ⟨k, hk, hp⟩ hx : ∀ k, k < n → p k = false)
    omega
  · rintro ⟨k, hk, hp⟩
    rcases Nat.eq_zero_or_pos (fb_ct p n) with e | e
    · have := fb_ct_zero.mp e k hk
      rw [this] at hp
      cases hp
    · exact e
theorem fb_ct_all {p : Nat → Bool} {n : Nat} : fb_ct p n = n ↔ ∀ k, k < n → p k = true := by
  have h := fb_ct_not p n
  constructor
  · intro e k hk
    have z : fb_ct (fun k => !p k) n = 0 := by omega
    have := fb_ct_zero.mp z k hk
    cases hp : p k
    · simp [hp] at this
    · rfl
  · intro a
    have z : fb_ct (fun k => !p k) n = 0 := fb_ct_zero.mpr (fun k hk => by simp [a k hk])
    omega
/-- the k-th place with the property -/
theorem fb_ct_kth {p : Nat → Bool} {k : Nat} : ∀ {n : Nat}, k < fb_ct p n → ∃ i, i < n ∧ p i = true ∧ fb_ct p i = k
  | 0, h => absurd h (Nat.not_lt_zero k)
  | n + 1, h => by
    rcases Nat.lt_or_ge k (fb_ct p n) with q | q
    · obtain ⟨i, h1, h2⟩ := fb_ct_kth q
      exact ⟨i, by omega, h2⟩
    · rw [fb_ct_succ] at h
      cases hp : p n
      · simp [hp] at h; omega
      · simp [hp] at h
        exact ⟨n, by omega, hp, by omega⟩
theorem fb_ct_kth_one {p : Nat → Bool} {i j : Nat} (hi : p i = true) (hj : p j = true) (e : fb_ct p i = fb_ct p j) : i = j := by
  have key : ∀ a b : Nat, a < b → p a = true → fb_ct p a < fb_ct p b := by
    intro a b hab ha
    have h := fb_ct_mono p (show a + 1 ≤ b from hab)
    rw [fb_ct_succ, ha] at h
    simp at h
    omega
  rcases Nat.lt_trichotomy i j with q | q | q
  · have := key i j q hi; omega
  · exact q
  · have := key j i q hj; omega
/-! ===== sums over a range: one place changed, parts, bounds ===== -/
def fb_sm (f : Nat → Nat) : Nat → Nat
  | 0 => 0
  | n + 1 => fb_sm f n + f n
theorem fb_sm_succ (f : Nat → Nat) (n : Nat) : fb_sm f (n + 1) = fb_sm f n + f n := rfl
theorem fb_sm_cong {f g : Nat → Nat} : ∀ {n : Nat}, (∀ k, k < n → f k = g k) → fb_sm f n = fb_sm g n
  | 0, _ => rfl
  | n + 1, h => by rw [fb_sm_succ, fb_sm_succ, fb_sm_cong (fun k hk => h k (by omega)), h n (by omega)]
theorem fb_sm_out (f : Nat → Nat) (v : Nat) {i n : Nat} (h : n ≤ i) : fb_sm (fun k => if k = i then v else f k) n = fb_sm f n :=
  fb_sm_cong fun k hk => if_neg (by omega)
theorem fb_sm_upd (f : Nat → Nat) (v : Nat) {i : Nat} : ∀ {n : Nat}, i < n → fb_sm (fun k => if k = i then v else f k) n + f i = fb_sm f n + v
  | 0, h => absurd h (Nat.not_lt_zero i)
  | n + 1, h => by
    rw [fb_sm_succ, fb_sm_succ]
    rcases Nat.lt_or_ge i n with q | q
    · have := fb_sm_upd f v q
      have e : (if n = i then v else f n) = f n := if_neg (by omega)
      rw [e]
      omega
    · have e : i = n := by omega
      subst e
      rw [fb_sm_out f v (Nat.le_refl _)]
      simp only [if_true]
      omega
theorem fb_sm_add (f g : Nat → Nat) : ∀ n, fb_sm (fun k => f k + g k) n = fb_sm f n + fb_sm g n
  | 0 => rfl
  | n + 1 => by
    have h := fb_sm_add f g n
    rw [fb_sm_succ, fb_sm_succ, fb_sm_succ, h]
    omega
theorem fb_sm_le {f g : Nat → Nat} : ∀ {n : Nat}, (∀ k, k < n → f k ≤ g k) → fb_sm f n ≤ fb_sm g n
  | 0, _ => Nat.le_refl _
  | n + 1, h => by
    have h1 := fb_sm_le (n := n) (f := f) (g := g) (fun k hk => h k (by omega))
    have h2 := h n (by omega)
    rw [fb_sm_succ, fb_sm_succ]
    omega
theorem fb_sm_const (c : Nat) : ∀ n, fb_sm (fun _ => c) n = n * c
  | 0 => by rw [Nat.zero_mul]; rfl
  | n + 1 => by rw [fb_sm_succ, fb_sm_const c n, Nat.succ_mul]
theorem fb_sm_bound {f : Nat → Nat} {c n : Nat} (h : ∀ k, k < n → f k ≤ c) : fb_sm f n ≤ n * c := by
  rw [← fb_sm_const c n]
  exact fb_sm_le h
theorem fb_sm_mono (f : Nat → Nat) (m : Nat) : ∀ n, fb_sm f m ≤ fb_sm f (m + n)
  | 0 => Nat.le_refl _
  | n + 1 => by
    have h := fb_sm_mono f m n
    show fb_sm f m ≤ fb_sm f (m + n + 1)
    rw [fb_sm_succ]
    omega
theorem fb_sm_part (f : Nat → Nat) {i n : Nat} (h : i < n) : fb_sm f i + f i ≤ fb_sm f n := by
  have := fb_sm_mono f (i + 1) (n - (i + 1))
  rw [fb_sm_succ, show i + 1 + (n - (i + 1)) = n by omega] at this
  exact this
theorem fb_sm_split (f : Nat → Nat) (m : Nat) : ∀ n, fb_sm f (m + n) = fb_sm f m + fb_sm (fun k => f (m + k)) n
  | 0 => rfl
  | n + 1 => by
    have h := fb_sm_split f m n
    show fb_sm f (m + n + 1) = _
    rw [fb_sm_succ, fb_sm_succ, h, Nat.add_assoc]
theorem fb_sm_zero {f : Nat → Nat} {n : Nat} (h : fb_sm f n = 0) : ∀ k, k < n → f k = 0 := fun k hk => by
  have := fb_sm_part f hk
  omega
/-- the same over whole numbers -/
def fb_si (f : Nat → Int) : Nat → Int
  | 0 => 0
  | n + 1 => fb_si f n + f n
theorem fb_si_succ (f : Nat → Int) (n : Nat) : fb_si f (n + 1) = fb_si f n + f n := rfl
theorem fb_si_cong {f g : Nat → Int} : ∀ {n : Nat}, (∀ k, k < n → f k = g k) → fb_si f n = fb_si g n
  | 0, _ => rfl
  | n + 1, h => by rw [fb_si_succ, fb_si_succ, fb_si_cong (fun k hk => h k (by omega)), h n (by omega)]
theorem fb_si_out (f : Nat → Int) (v : Int) {i n : Nat} (h : n ≤ i) : fb_si (fun k => if k = i then v else f k) n = fb_si f n :=
  fb_si_cong fun k hk => if_neg (by omega)
theorem fb_si_upd (f : Nat → Int) (v : Int) {i : Nat} : ∀ {n : Nat}, i < n → fb_si (fun k => if k = i then v else f k) n = fb_si f n - f i + v
  | 0, h => absurd h (Nat.not_lt_zero i)
  | n + 1, h => by
    rw [fb_si_succ, fb_si_succ]
    rcases Nat.lt_or_ge i n with q | q
    · have := fb_si_upd f v q
      have e : (if n = i then v else f n) = f n := if_neg (by omega)
      rw [e]
      omega
    · have e : i = n := by omega
      subst e
      rw [fb_si_out f v (Nat.le_refl _)]
      simp only [if_true]
      omega
theorem fb_si_add (f g : Nat → Int) : ∀ n, fb_si (fun k => f k + g k) n = fb_si f n + fb_si g n
  | 0 => rfl
  | n + 1 => by
    have h := fb_si_add f g n
    rw [fb_si_succ, fb_si_succ, fb_si_succ, h]
    omega
theorem fb_si_sub (f g : Nat → Int) : ∀ n, fb_si (fun k => f k - g k) n = fb_si f n - fb_si g n
  | 0 => rfl
  | n + 1 => by
    have h := fb_si_sub f g n
    rw [fb_si_succ, fb_si_succ, fb_si_succ, h]
    omega
theorem fb_si_mul (c : Int) (f : Nat → Int) : ∀ n, fb_si (fun k => c * f k) n = c * fb_si f n
  | 0 => (Int.mul_zero c).symm
  | n + 1 => by
    have h := fb_si_mul c f n
    rw [fb_si_succ, fb_si_succ, h, Int.mul_add]
theorem fb_si_split (f : Nat → Int) (m : Nat) : ∀ n, fb_si f (m + n) = fb_si f m + fb_si (fun k => f (m + k)) n
  | 0 => (Int.add_zero _).symm
  | n + 1 => by
    have h := fb_si_split f m n
    show fb_si f (m + n + 1) = _
    rw [fb_si_succ, fb_si_succ, h, Int.add_assoc]
theorem fb_si_nat (f : Nat → Nat) : ∀ n, fb_si (fun k => (f k : Int)) n = (fb_sm f n : Int)
  | 0 => rfl
  | n + 1 => by
    have h := fb_si_nat f n
    rw [fb_si_succ, fb_sm_succ, h]
    omega
theorem fb_si_bound {f : Nat → Int} {c : Int} (hc : 0 ≤ c) : ∀ {n : Nat}, (∀ k, k < n → -c ≤ f k ∧ f k ≤ c) → -(n * c) ≤ fb_si f n ∧ fb_si f n ≤ n * c
  | 0, _ => by simp [fb_si]
  | n + 1, h => by
    have h1 := fb_si_bound (n := n) (f := f) hc (fun k hk => h k (by omega))
    have h2 := h n (by omega)
    have e : ((n + 1 : Nat) : Int) * c = n * c + c := by rw [Int.natCast_add, Int.add_mul]; simp
    rw [fb_si_succ, e]
    omega
/-! ===== bits of a long that isn't negative ===== -/
theorem fb_andL (a b : Nat) : lN a &&& lN b = lN (a &&& b) := by
  apply Int64.toBitVec_inj.1
  show BitVec.ofNat 64 a &&& BitVec.ofNat 64 b = BitVec.ofNat 64 (a &&& b)
  apply BitVec.eq_of_getLsbD_eq
  intro i hi
  simp [hi]
theorem fb_orL (a b : Nat) : lN a ||| lN b = lN (a ||| b) := by
  apply Int64.toBitVec_inj.1
  show BitVec.ofNat 64 a ||| BitVec.ofNat 64 b = BitVec.ofNat 64 (a ||| b)
  apply BitVec.eq_of_getLsbD_eq
  intro i hi
  simp [hi]
theorem fb_xorL (a b : Nat) : lN a ^^^ lN b = lN (a ^^^ b) := by
  apply Int64.toBitVec_inj.1
  show BitVec.ofNat 64 a ^^^ BitVec.ofNat 64 b = BitVec.ofNat 64 (a ^^^ b)
  apply BitVec.eq_of_getLsbD_eq
  intro i hi
  simp [hi]
theorem fb_xorI (a b : Nat) : nI a ^^^ nI b = nI (a ^^^ b) := by
  apply Int32.toBitVec_inj.1
  show BitVec.ofNat 32 a ^^^ BitVec.ofNat 32 b = BitVec.ofNat 32 (a ^^^ b)
  apply BitVec.eq_of_getLsbD_eq
  intro i hi
  simp [hi]
theorem fb_maskL (n k : Nat) : lN n &&& lN (2 ^ k - 1) = lN (n % 2 ^ k) := by rw [fb_andL, Nat.and_two_pow_sub_one_eq_mod]
theorem fb_or_sumL {a k : Nat} (b : Nat) (h : a < 2 ^ k) : lN (2 ^ k * b) ||| lN a = lN (2 ^ k * b + a) := by rw [fb_orL, Nat.two_pow_add_eq_or_of_lt h]
theorem fb_lN_inj {a b : Nat} (ha : a < 2 ^ 63) (hb : b < 2 ^ 63) : lN a = lN b ↔ a = b := by
  constructor
  · intro h
    have h1 : (BitVec.ofNat 64 a).toNat = (BitVec.ofNat 64 b).toNat := congrArg (fun x : Int64 => x.toBitVec.toNat) h
    rw [BitVec.toNat_ofNat, BitVec.toNat_ofNat, Nat.mod_eq_of_lt (by omega), Nat.mod_eq_of_lt (by omega)] at h1
    exact h1
  · rintro rfl; rfl
theorem fb_bit_nat (n j : Nat) : n &&& 2 ^ j = 0 ↔ n.testBit j = false := by
  constructor
  · intro h
    have h1 : (n &&& 2 ^ j).testBit j = false := by rw [h]; simp
    rw [Nat.testBit_and] at h1
    simpa using h1
  · intro h
    apply Nat.eq_of_testBit_eq
    intro i
    rw [Nat.testBit_and]
    by_cases hi : j = i
    · subst hi; simp [h]
    · first | (simp [Nat.testBit_two_pow, hi]; done) | (simp [Nat.testBit_two_pow_of_ne hi]; done)
/-- one bit of a long -/
theorem fb_bitL {n j : Nat} (hj : j < 63) : lN n &&& lN (2 ^ j) = 0 ↔ n.testBit j = false := by
  have h2 : (2 : Nat) ^ j < 2 ^ 63 := Nat.pow_lt_pow_right (by decide) hj
  have hle : n &&& 2 ^ j ≤ 2 ^ j := Nat.and_le_right
  rw [fb_andL, ← fb_bit_nat, show (0 : Int64) = lN 0 from rfl]
  exact fb_lN_inj (by omega) (by decide)
/-- a bit set, a bit taken off -/
theorem fb_bit_set (n j i : Nat) : (n ||| 2 ^ j).testBit i = (n.testBit i || decide (i = j)) := by
  rw [Nat.testBit_or]
  by_cases h : j = i
  · subst h; simp
  · have h2 : ¬ i = j := fun e => h e.symm
    first | (simp [Nat.testBit_two_pow, h, h2]; done) | (simp [Nat.testBit_two_pow_of_ne h, h2]; done)
theorem fb_bit_flip (n j i : Nat) : (n ^^^ 2 ^ j).testBit i = (n.testBit i ^^ decide (i = j)) := by
  rw [Nat.testBit_xor]
  by_cases h : j = i
  · subst h; simp
  · have h2 : ¬ i = j := fun e => h e.symm
    first | (simp [Nat.testBit_two_pow, h, h2]; done) | (simp [Nat.testBit_two_pow_of_ne h, h2]; done)
/-! ===== a stretch of an array written over by a function ===== -/
def fb_put {α : Type} (f g : Nat → α) (a n : Nat) : Nat → α := fun k => if a ≤ k ∧ k < a + n then g (k - a) else f k
theorem fb_put_0 {α : Type} (f g : Nat → α) (a : Nat) : fb_put f g a 0 = f := funext fun k => if_neg (by omega)
theorem fb_put_in {α : Type} {f g : Nat → α} {a n k : Nat} (h1 : a ≤ k) (h2 : k < a + n) : fb_put f g a n k = g (k - a) := if_pos ⟨h1, h2⟩
theorem fb_put_out {α : Type} {f g : Nat → α} {a n k : Nat} (h : k < a ∨ a + n ≤ k) : fb_put f g a n k = f k := if_neg (by omega)
theorem fb_put_succ (f g : Nat → Int32) (a n : Nat) : upd (fb_put f g a n) (a + n) (g n) = fb_put f g a (n + 1) := by
  funext k
  by_cases h : k = a + n
  · subst h
    simp [upd, fb_put]
  · by_cases h1 : a ≤ k ∧ k < a + n
    · have h2 : a ≤ k ∧ k < a + (n + 1) := by omega
      simp only [upd, fb_put, if_neg h, if_pos h1, if_pos h2]
    · have h2 : ¬ (a ≤ k ∧ k < a + (n + 1)) := by omega
      simp only [upd, fb_put, if_neg h, if_neg h1, if_neg h2]
/-- .. from the far end down -/
theorem fb_put_down (f g : Nat → Int32) {a n m : Nat} (h : m < n) : upd (fb_put f (fun k => g (k + (m + 1))) (a + (m + 1)) (n - (m + 1))) (a + m) (g m) = fb_put f (fun k => g (k + m)) (a + m) (n - m) := by
  funext k
  by_cases h0 : k = a + m
  · subst h0
    simp only [upd, if_true]
    rw [fb_put_in (by omega) (by omega)]
    exact congrArg g (by omega)
  · simp only [upd, if_neg h0]
    by_cases h1 : a + (m + 1) ≤ k ∧ k < a + (m + 1) + (n - (m + 1))
    · rw [fb_put_in h1.1 h1.2, fb_put_in (by omega) (by omega)]
      exact congrArg g (by omega)
    · rw [fb_put_out (by omega), fb_put_out (by omega)]
theorem fb_put_cong {α : Type} {f f2 g g2 : Nat → α} {a n : Nat} (hf : ∀ k, (k < a ∨ a + n ≤ k) → f k = f2 k) (hg : ∀ k, k < n → g k = g2 k) : fb_put f g a n = fb_put f2 g2 a n := by
  funext k
  by_cases h : a ≤ k ∧ k < a + n
  · rw [fb_put_in h.1 h.2, fb_put_in h.1 h.2, hg _ (by omega)]
  · rw [fb_put_out (by omega), fb_put_out (by omega), hf _ (by omega)]
/-! ===== the least, the first, the best so far; that there is one alone ===== -/
theorem fb_first {p : Nat → Prop} [DecidablePred p] : ∀ {n : Nat}, (∃ i, i < n ∧ p i) → ∃ i, i < n ∧ p i ∧ ∀ j, j < i → ¬ p j
  | 0, h => by obtain ⟨i, hi, -⟩ := h; exact absurd hi (Nat.not_lt_zero i)
  | n + 1, h => by
    by_cases q : ∃ i, i < n ∧ p i
    · obtain ⟨i, h1, h2⟩ := fb_first q
      exact ⟨i, by omega, h2⟩
    · obtain ⟨i, h1, h2⟩ := h
      have e : i = n := by
        rcases Nat.lt_or_ge i n with r | r
        · exact absurd ⟨i, r, h2⟩ q
        · omega
      subst e
      exact ⟨i, by omega, h2, fun j hj hp => q ⟨j, hj, hp⟩⟩
theorem fb_first_one {p : Nat → Prop} {i j : Nat} (hi : p i) (hi2 : ∀ k, k < i → ¬ p k) (hj : p j) (hj2 : ∀ k, k < j → ¬ p k) : i = j := by
  rcases Nat.lt_trichotomy i j with q | q | q
  · exact absurd hi (hj2 i q)
  · exact q
  · exact absurd hj (hi2 j q)
theorem fb_last {p : Nat → Prop} [DecidablePred p] : ∀ {n : Nat}, (∃ i, i < n ∧ p i) → ∃ i, i < n ∧ p i ∧ ∀ j, i < j → j < n → ¬ p j
  | 0, h => by obtain ⟨i, hi, -⟩ := h; exact absurd hi (Nat.not_lt_zero i)
  | n + 1, h => by
    by_cases q : p n
    · exact ⟨n, by omega, q, fun j h1 h2 => by omega⟩
    · obtain ⟨i, h1, h2⟩ := h
      have hi : i < n := by
        rcases Nat.lt_or_ge i n with r | r
        · exact r
        · have e : i = n := by omega
          subst e
          exact absurd h2 q
      obtain ⟨i2, a1, a2, a3⟩ := fb_last (n := n) ⟨i, hi, h2⟩
      refine ⟨i2, by omega, a2, fun j b1 b2 => ?_⟩
      rcases Nat.lt_or_ge j n with r | r
      · exact a3 j b1 r
      · have e : j = n := by omega
        subst e
        exact q
/-- the first greatest -/
theorem fb_best (f : Nat → Int) : ∀ {n : Nat}, 0 < n → ∃ i, i < n ∧ (∀ j, j < n → f j ≤ f i) ∧ ∀ j, j < i → f j < f i
  | 0, h => absurd h (Nat.lt_irrefl 0)
  | 1, _ => ⟨0, by omega, fun j hj => by have e : j = 0 := by omega
                                         subst e; exact Int.le_refl _, fun j hj => absurd hj (Nat.not_lt_zero j)⟩
  | n + 2, _ => by
    obtain ⟨i, h1, h2, h3⟩ := fb_best f (n := n + 1) (by omega)
    by_cases q : f i < f (n + 1)
    · refine ⟨n + 1, by omega, fun j hj => ?_, fun j hj => ?_⟩
      · rcases Nat.lt_or_ge j (n + 1) with r | r
        · have := h2 j r; omega
        · have e : j = n + 1 := by omega
          subst e; exact Int.le_refl _
      · have := h2 j hj; omega
    · refine ⟨i, by omega, fun j hj => ?_, h3⟩
      rcases Nat.lt_or_ge j (n + 1) with r | r
      · exact h2 j r
      · have e : j = n + 1 := by omega
        subst e; omega
theorem fb_best_one {f : Nat → Int} {n i j : Nat} (hi : i < n) (hi2 : ∀ k, k < n → f k ≤ f i) (hi3 : ∀ k, k < i → f k < f i) (hj : j < n) (hj2 : ∀ k, k < n → f k ≤ f j) (hj3 : ∀ k, k < j → f k < f j) : i = j := by
  rcases Nat.lt_trichotomy i j with q | q | q
  · have a := hj3 i q
    have b := hi2 j hj
    omega
  · exact q
  · have a := hi3 j q
    have b := hj2 i hi
    omega
/-- the first least -/
theorem fb_low (f : Nat → Int) {n : Nat} (h : 0 < n) : ∃ i, i < n ∧ (∀ j, j < n → f i ≤ f j) ∧ ∀ j, j < i → f i < f j := by
  obtain ⟨i, h1, h2, h3⟩ := fb_best (fun k => -f k) h
  exact ⟨i, h1, fun j hj => by have := h2 j hj; omega, fun j hj => by have := h3 j hj; omega⟩
/-! ===== signed ints as whole numbers, within bounds ===== -/
theorem fb_rng (x : Int32) : -2147483648 ≤ x.toInt ∧ x.toInt < 2147483648 := by
  have h1 := Int32.le_toInt x
  have h2 := Int32.toInt_lt x
  omega
theorem fb_bmod {z : Int} (h1 : -2147483648 ≤ z) (h2 : z < 2147483648) : z.bmod (2 ^ 32) = z := by
  rw [Int.bmod_eq_of_le (by omega) (by omega)]
theorem fb_addI {x y : Int32} (h1 : -2147483648 ≤ x.toInt + y.toInt) (h2 : x.toInt + y.toInt < 2147483648) : (x + y).toInt = x.toInt + y.toInt := by
  rw [Int32.toInt_add, fb_bmod h1 h2]
theorem fb_subI {x y : Int32} (h1 : -2147483648 ≤ x.toInt - y.toInt) (h2 : x.toInt - y.toInt < 2147483648) : (x - y).toInt = x.toInt - y.toInt := by
  rw [Int32.toInt_sub, fb_bmod h1 h2]
theorem fb_mulI {x y : Int32} (h1 : -2147483648 ≤ x.toInt * y.toInt) (h2 : x.toInt * y.toInt < 2147483648) : (x * y).toInt = x.toInt * y.toInt := by
  rw [Int32.toInt_mul, fb_bmod h1 h2]
theorem fb_negI {x : Int32} (h : x.toInt ≠ -2147483648) : (-x).toInt = -x.toInt := by
  have := fb_rng x
  rw [Int32.toInt_neg, fb_bmod (by omega) (by omega)]
theorem fb_ofI {z : Int} (h1 : -2147483648 ≤ z) (h2 : z < 2147483648) : (Int32.ofInt z).toInt = z := by
  rw [Int32.toInt_ofInt, fb_bmod h1 h2]
theorem fb_asI (x : Int32) : Int32.ofInt x.toInt = x := Int32.ofInt_toInt x
theorem fb_rngL (x : Int64) : -9223372036854775808 ≤ x.toInt ∧ x.toInt < 9223372036854775808 := by
  have h1 := Int64.le_toInt x
  have h2 := Int64.toInt_lt x
  omega
theorem fb_bmodL {z : Int} (h1 : -9223372036854775808 ≤ z) (h2 : z < 9223372036854775808) : z.bmod (2 ^ 64) = z := by
  rw [Int.bmod_eq_of_le (by omega) (by omega)]
theorem fb_addL {x y : Int64} (h1 : -9223372036854775808 ≤ x.toInt + y.toInt) (h2 : x.toInt + y.toInt < 9223372036854775808) : (x + y).toInt = x.toInt + y.toInt := by
  rw [Int64.toInt_add, fb_bmodL h1 h2]
theorem fb_subL {x y : Int64} (h1 : -9223372036854775808 ≤ x.toInt - y.toInt) (h2 : x.toInt - y.toInt < 9223372036854775808) : (x - y).toInt = x.toInt - y.toInt := by
  rw [Int64.toInt_sub, fb_bmodL h1 h2]
theorem fb_mulL {x y : Int64} (h1 : -9223372036854775808 ≤ x.toInt * y.toInt) (h2 : x.toInt * y.toInt < 9223372036854775808) : (x * y).toInt = x.toInt * y.toInt := by
  rw [Int64.toInt_mul, fb_bmodL h1 h2]
/-! ===== cuts of what is narrow already ===== -/
theorem fb_byte {x : Int32} (h1 : -128 ≤ x.toInt) (h2 : x.toInt < 128) : x.toInt8.toInt32 = x := by
  apply Int32.toInt_inj.1
  rw [Int8.toInt_toInt32, Int32.toInt_toInt8, Int.bmod_eq_of_le (by omega) (by omega)]
theorem fb_short {x : Int32} (h1 : -32768 ≤ x.toInt) (h2 : x.toInt < 32768) : x.toInt16.toInt32 = x := by
  apply Int32.toInt_inj.1
  rw [Int16.toInt_toInt32, Int32.toInt_toInt16, Int.bmod_eq_of_le (by omega) (by omega)]
theorem fb_byte_rng (x : Int32) : -128 ≤ x.toInt8.toInt32.toInt ∧ x.toInt8.toInt32.toInt < 128 := by
  rw [Int8.toInt_toInt32]
  have h1 := Int8.le_toInt x.toInt8
  have h2 := Int8.toInt_lt x.toInt8
  omega
theorem fb_short_rng (x : Int32) : -32768 ≤ x.toInt16.toInt32.toInt ∧ x.toInt16.toInt32.toInt < 32768 := by
  rw [Int16.toInt_toInt32]
  have h1 := Int16.le_toInt x.toInt16
  have h2 := Int16.toInt_lt x.toInt16
  omega
theorem fb_byte_twice (x : Int32) : x.toInt8.toInt32.toInt8.toInt32 = x.toInt8.toInt32 := fb_byte (fb_byte_rng x).1 (fb_byte_rng x).2
theorem fb_short_twice (x : Int32) : x.toInt16.toInt32.toInt16.toInt32 = x.toInt16.toInt32 := fb_short (fb_short_rng x).1 (fb_short_rng x).2
theorem fb_char {n : Nat} (h : n < 65536) : (nI n).toUInt32.toUInt16.toUInt32.toInt32 = nI n := by
  apply Int32.toBitVec_inj.1
  apply BitVec.eq_of_toNat_eq
  have e1 : (nI n).toBitVec.toNat = n := by
    show (BitVec.ofNat 32 n).toNat = n
    rw [BitVec.toNat_ofNat, Nat.mod_eq_of_lt (by omega)]
  have e2 : ((nI n).toUInt32.toUInt16.toUInt32).toNat = n := by
    rw [UInt16.toNat_toUInt32, UInt32.toNat_toUInt16]
    show (nI n).toBitVec.toNat % 2 ^ 16 = n
    rw [e1, Nat.mod_eq_of_lt (by omega)]
  rw [e1]
  exact e2
theorem lN_bv (n : Nat) : (lN n).toBitVec = BitVec.ofNat 64 n := rfl
theorem lN_nat {n : Nat} (h : n < 2 ^ 64) : (lN n).toBitVec.toNat = n := by rw [lN_bv, BitVec.toNat_ofNat]; exact Nat.mod_eq_of_lt h
theorem lN_xor (a b : Nat) : lN a ^^^ lN b = lN (a ^^^ b) := by
  apply Int64.toBitVec_inj.mp; rw [Int64.toBitVec_xor, lN_bv, lN_bv, lN_bv]; apply BitVec.eq_of_getLsbD_eq; intro i hi; simp [BitVec.getLsbD_ofNat, Nat.testBit_xor, hi]
theorem lN_ti {m : Nat} (h : m < 2 ^ 64) : (lN m).toInt = if m < 2 ^ 63 then (m : Int) else (m : Int) - 2 ^ 64 := by
  have c := BitVec.toInt_eq_toNat_cond (lN m).toBitVec
  rw [lN_nat h] at c
  show (lN m).toBitVec.toInt = _
  rw [c]
  split <;> split <;> omega
theorem xor63 {x : Nat} (h : x < 2 ^ 63) : x ^^^ 2 ^ 63 = 2 ^ 63 + x := by
  apply Nat.eq_of_testBit_eq
  intro i
  rw [Nat.testBit_xor, Nat.testBit_two_pow]
  rcases Nat.lt_trichotomy i 63 with z | z | z
  · rw [Nat.testBit_two_pow_add_gt z, decide_eq_false (by omega)]; simp
  · subst z; rw [Nat.testBit_two_pow_add_eq]; simp
  · have hp : 2 ^ 64 ≤ 2 ^ i := Nat.pow_le_pow_right (by decide) z
    rw [Nat.testBit_lt_two_pow (show x < 2 ^ i by omega), Nat.testBit_lt_two_pow (show 2 ^ 63 + x < 2 ^ i by omega), decide_eq_false (by omega)]; rfl
theorem xorS {a : Nat} (h : a < 2 ^ 64) : (lN a ^^^ (-9223372036854775808)).toInt = (a : Int) - 2 ^ 63 := by
  rw [show (-9223372036854775808 : Int64) = lN (2 ^ 63) from by decide +kernel, lN_xor]
  rcases Nat.lt_or_ge a (2 ^ 63) with z | z
  · rw [xor63 z, lN_ti (by omega), if_neg (by omega)]; omega
  · obtain ⟨x, rfl⟩ : ∃ x, a = 2 ^ 63 + x := ⟨a - 2 ^ 63, by omega⟩
    rw [← xor63 (by omega), Nat.xor_assoc, Nat.xor_self, Nat.xor_zero, lN_ti (by omega), if_pos (by omega), xor63 (by omega)]; omega
theorem ultL {a b : Nat} (ha : a < 2 ^ 64) (hb : b < 2 ^ 64) : ((lN b ^^^ (-9223372036854775808)) ≤ (lN a ^^^ (-9223372036854775808))) ↔ b ≤ a := by
  rw [Int64.le_iff_toInt_le, xorS ha, xorS hb]; omega
/-! ===== Int64 masks of n low bits ===== -/
end
section
/-! plain facts: how many sets of k out of n, and the ways to make just a set free -/
def ch : Nat → Nat → Nat
  | _, 0 => 1
  | 0, _ + 1 => 0
  | n + 1, k + 1 => ch n k + ch n (k + 1)
theorem ch_z (n : Nat) : ch n 0 = 1 := by cases n <;> rfl
theorem ch_0s (k : Nat) : ch 0 (k + 1) = 0 := rfl
theorem ch_ss (n k : Nat) : ch (n + 1) (k + 1) = ch n k + ch n (k + 1) := rfl
theorem ch_lt : ∀ {n k : Nat}, n < k → ch n k = 0
  | _, 0, h => absurd h (Nat.not_lt_zero _)
  | 0, _ + 1, _ => rfl
  | n + 1, k + 1, h => by rw [ch_ss, ch_lt (n := n) (k := k) (by omega), ch_lt (n := n) (k := k + 1) (by omega)]
theorem ch_pos : ∀ {n k : Nat}, k ≤ n → 0 < ch n k
  | n, 0, _ => by rw [ch_z]; omega
  | 0, k + 1, h => absurd h (by omega)
  | n + 1, k + 1, h => by
    rw [ch_ss]
    have := ch_pos (n := n) (k := k) (by omega)
    omega
theorem ch_mul : ∀ (n k : Nat), ch n (k + 1) * (k + 1) = ch n k * (n - k)
  | 0, k => by rw [ch_0s]; simp
  | n + 1, 0 => by
    have h := ch_mul n 0
    rw [ch_z] at h
    rw [ch_ss, ch_z, ch_z]
    omega
  | n + 1, k + 1 => by
    have h1 := ch_mul n k
    have h2 := ch_mul n (k + 1)
    rw [ch_ss n (k + 1), ch_ss n k, Nat.add_mul, h2, show n + 1 - (k + 1) = n - k by omega, Nat.add_mul, ← h1]
    rcases Nat.lt_or_ge n (k + 1) with q | q
    · rw [ch_lt q]; simp
    · have e : ch n (k + 1) * (n - k) = ch n (k + 1) * (n - (k + 1)) + ch n (k + 1) := by
        rw [show n - k = (n - (k + 1)) + 1 by omega, Nat.mul_add, Nat.mul_one]
      have e2 : ch n (k + 1) * (k + 1 + 1) = ch n (k + 1) * (k + 1) + ch n (k + 1) := Nat.mul_succ ..
      omega
theorem ch_up (n k : Nat) : ch n (k + 1) ≤ ch n k * n := by
  have h := ch_mul n k
  have h1 : ch n (k + 1) * 1 ≤ ch n (k + 1) * (k + 1) := Nat.mul_le_mul_left _ (by omega)
  have h2 : ch n k * (n - k) ≤ ch n k * n := Nat.mul_le_mul_left _ (by omega)
  omega
theorem ch_mono : ∀ {m n : Nat} (k : Nat), m ≤ n → ch m k ≤ ch n k
  | _, _, 0, _ => by rw [ch_z, ch_z]; omega
  | 0, n, k + 1, _ => by rw [ch_0s]; omega
  | m + 1, 0, k + 1, h => absurd h (by omega)
  | m + 1, n + 1, k + 1, h => by
    rw [ch_ss, ch_ss]
    have h1 := ch_mono (m := m) (n := n) k (by omega)
    have h2 := ch_mono (m := m) (n := n) (k + 1) (by omega)
    omega
theorem ch_step {n k c d : Nat} (h : ch n k = c) (hd : c * (n - k) = d * (k + 1)) : ch n (k + 1) = d := by
  have h1 := ch_mul n k
  rw [h, hd] at h1
  exact Nat.eq_of_mul_eq_mul_right (by omega) h1
theorem ch121 : ch 121 1 = 121 ∧ ch 121 2 = 7260 ∧ ch 121 3 = 287980 ∧ ch 121 4 = 8495410 ∧ ch 121 5 = 198792594 ∧ ch 121 6 = 3843323484 := by
  have h1 : ch 121 1 = 121 := ch_step (ch_z 121) (by decide)
  have h2 : ch 121 2 = 7260 := ch_step h1 (by decide)
  have h3 : ch 121 3 = 287980 := ch_step h2 (by decide)
  have h4 : ch 121 4 = 8495410 := ch_step h3 (by decide)
  have h5 : ch 121 5 = 198792594 := ch_step h4 (by decide)
  have h6 : ch 121 6 = 3843323484 := ch_step h5 (by decide)
  exact ⟨h1, h2, h3, h4, h5, h6⟩
theorem ch_b32 {n k : Nat} (hn : n ≤ 121) (hk : k ≤ 6) : ch n k < 4294967296 := by
  have h := ch_mono k hn
  obtain ⟨h1, h2, h3, h4, h5, h6⟩ := ch121
  rcases (show k = 0 ∨ k = 1 ∨ k = 2 ∨ k = 3 ∨ k = 4 ∨ k = 5 ∨ k = 6 by omega) with rfl | rfl | rfl | rfl | rfl | rfl | rfl
  · rw [ch_z]; omega
  all_goals omega
/-- a rough bound for every drum that is asked for -/
theorem ch_b {n k : Nat} (hn : n ≤ 200) (hk : k ≤ 6) : ch n k ≤ 200 ^ 6 := by
  have e : ∀ j, ch n j ≤ 200 ^ j := by
    intro j
    induction j with
    | zero => rw [ch_z]; exact Nat.le_refl _
    | succ j ih =>
      refine Nat.le_trans (ch_up n j) ?_
      rw [Nat.pow_succ]
      exact Nat.mul_le_mul ih hn
  exact Nat.le_trans (e k) (Nat.pow_le_pow_right (by omega) hk)
theorem si_first (f : Nat → Int) : ∀ n, fb_si f (n + 1) = f 0 + fb_si (fun k => f (k + 1)) n
  | 0 => by rw [fb_si_succ]; simp [fb_si]
  | n + 1 => by rw [fb_si_succ, si_first f n, fb_si_succ]; omega
theorem sm_first (f : Nat → Nat) : ∀ n, fb_sm f (n + 1) = f 0 + fb_sm (fun k => f (k + 1)) n
  | 0 => by rw [fb_sm_succ]; simp [fb_sm]
  | n + 1 => by rw [fb_sm_succ, sm_first f n, fb_sm_succ]; omega
theorem si_ext {f : Nat → Int} {a : Nat} : ∀ {b : Nat}, a ≤ b → (∀ k, a ≤ k → k < b → f k = 0) → fb_si f b = fb_si f a
  | 0, h, _ => by rw [show a = 0 by omega]
  | b + 1, h, hz => by
    rcases Nat.lt_or_ge b a with q | q
    · rw [show a = b + 1 by omega]
    · rw [fb_si_succ, hz b q (by omega), si_ext q (fun k h1 h2 => hz k h1 (by omega))]; omega
/-- once more in the drum: the rows of sets grow as Pascal's -/
def Dd (f : Nat → Int) : Nat → Int := fun n => match n with
  | 0 => f 0
  | m + 1 => f (m + 1) + f m
def It : Nat → (Nat → Int) → Nat → Int
  | 0, f => f
  | s + 1, f => Dd (It s f)
theorem It_add (b : Nat) (f : Nat → Int) : ∀ a, It (a + b) f = It a (It b f)
  | 0 => by rw [Nat.zero_add]; rfl
  | a + 1 => by rw [Nat.succ_add]; show Dd (It (a + b) f) = Dd (It a (It b f)); rw [It_add b f a]
theorem It_sub (f g : Nat → Int) : ∀ s n, It s (fun k => f k - g k) n = It s f n - It s g n
  | 0, _ => rfl
  | s + 1, 0 => by show It s (fun k => f k - g k) 0 = It s f 0 - It s g 0; exact It_sub f g s 0
  | s + 1, n + 1 => by
    show It s (fun k => f k - g k) (n + 1) + It s (fun k => f k - g k) n = (It s f (n + 1) + It s f n) - (It s g (n + 1) + It s g n)
    rw [It_sub f g s (n + 1), It_sub f g s n]; omega
theorem It_cong {f g : Nat → Int} (h : ∀ n, f n = g n) (s n : Nat) : It s f n = It s g n := by rw [show f = g from funext h]
def dl : Nat → Int := fun n => if n = 0 then 1 else 0
theorem It_dl : ∀ s n, It s dl n = (ch s n : Int)
  | 0, 0 => rfl
  | 0, n + 1 => rfl
  | s + 1, 0 => by show It s dl 0 = _; rw [It_dl s 0, ch_z, ch_z]
  | s + 1, n + 1 => by
    show It s dl (n + 1) + It s dl n = _
    rw [It_dl s (n + 1), It_dl s n, ch_ss]; omega
theorem It_sum (f : Nat → Int) : ∀ s n, It s f n = fb_si (fun k => (ch s k : Int) * f (n - k)) (n + 1)
  | 0, n => by
    rw [si_first]
    have e : fb_si (fun k => (ch 0 (k + 1) : Int) * f (n - (k + 1))) n = fb_si (fun _ => 0) n := fb_si_cong (fun k _ => by rw [ch_0s]; simp)
    have e2 : ∀ n, fb_si (fun _ => 0) n = 0 := fun n => by
      induction n with
      | zero => rfl
      | succ n ih => rw [fb_si_succ, ih]; rfl
    rw [e, e2, ch_z]; simp [It]
  | s + 1, 0 => by
    show It s f 0 = _
    rw [It_sum f s 0, fb_si_succ, fb_si_succ, ch_z, ch_z]
    rfl
  | s + 1, n + 1 => by
    show It s f (n + 1) + It s f n = _
    rw [It_sum f s (n + 1), It_sum f s n, si_first, si_first (fun k => (ch (s + 1) k : Int) * f (n + 1 - k)), ch_z, ch_z]
    have e : fb_si (fun k => (ch (s + 1) (k + 1) : Int) * f (n + 1 - (k + 1))) (n + 1) = fb_si (fun k => (ch s (k + 1) : Int) * f (n + 1 - (k + 1)) + (ch s k : Int) * f (n - k)) (n + 1) := fb_si_cong (fun k _ => by
      rw [ch_ss, show n + 1 - (k + 1) = n - k by omega, Int.natCast_add, Int.add_mul]; omega)
    rw [e, fb_si_add]; omega
/-- bit c of a set; how many are in it; the others -/
def bi (S c : Nat) : Bool := S / 2 ^ c % 2 == 1
def pc (n : Nat) : Nat := n % 2 + n / 2 % 2 + n / 4 % 2 + n / 8 % 2 + n / 16 % 2 + n / 32 % 2
def di (a b : Nat) : Nat := a &&& (63 ^^^ b)
/-- in how many ways n slips make just S free, of the first m -/
def Fr (sl : Nat → Nat) (S : Nat) : Nat → Nat → Nat
  | 0, n => if n = 0 then 1 else 0
  | m + 1, n => if bi S m then fb_sm (fun k => ch (sl m) (k + 1) * Fr sl S m (n - (k + 1))) n else Fr sl S m n
theorem Fr_It {sl : Nat → Nat} {S m : Nat} (h : bi S m = true) (n : Nat) : (Fr sl S (m + 1) n : Int) = It (sl m) (fun j => (Fr sl S m j : Int)) n - (Fr sl S m n : Int) := by
  rw [It_sum, si_first, ch_z]
  have e : (Fr sl S (m + 1) n : Int) = fb_si (fun k => (ch (sl m) (k + 1) : Int) * (Fr sl S m (n - (k + 1)) : Int)) n := by
    show ((if bi S m then fb_sm (fun k => ch (sl m) (k + 1) * Fr sl S m (n - (k + 1))) n else Fr sl S m n : Nat) : Int) = _
    rw [h, if_pos rfl, ← fb_si_nat]
    exact fb_si_cong (fun k _ => by rw [Int.natCast_mul])
  rw [e]
  simp
  omega
theorem Fr_no {sl : Nat → Nat} {S m : Nat} (h : ¬ bi S m = true) (n : Nat) : Fr sl S (m + 1) n = Fr sl S m n := by
  show (if bi S m then _ else Fr sl S m n) = _
  rw [if_neg h]
theorem Fr_cong {sl sl' : Nat → Nat} {S S' : Nat} : ∀ {m : Nat}, (∀ c, c < m → bi S c = bi S' c) → (∀ c, c < m → sl c = sl' c) → ∀ n, Fr sl S m n = Fr sl' S' m n
  | 0, _, _, _ => rfl
  | m + 1, h, h2, n => by
    have ih := Fr_cong (m := m) (fun c hc => h c (by omega)) (fun c hc => h2 c (by omega))
    show (if bi S m then _ else Fr sl S m n) = (if bi S' m then _ else Fr sl' S' m n)
    rw [h m (by omega), h2 m (by omega), ih n]
    congr 1
    exact fb_sm_cong (fun k _ => by rw [ih])
/-- by what is in and what is left out -/
def Gr (sl : Nat → Nat) (O : Nat) : Nat → Nat → Nat → Int
  | 0, acc, n => (ch acc n : Int)
  | m + 1, acc, n => if bi O m then Gr sl O m (acc + sl m) n - Gr sl O m acc n else Gr sl O m acc n
theorem Gr_It (sl : Nat → Nat) (O : Nat) : ∀ m acc n, Gr sl O m acc n = It acc (fun j => (Fr sl O m j : Int)) n
  | 0, acc, n => by
    show (ch acc n : Int) = _
    rw [← It_dl]
    exact It_cong (fun j => by show dl j = ((if j = 0 then 1 else 0 : Nat) : Int); unfold dl; split <;> rfl) acc n
  | m + 1, acc, n => by
    show (if bi O m then Gr sl O m (acc + sl m) n - Gr sl O m acc n else Gr sl O m acc n) = _
    by_cases h : bi O m = true
    · rw [if_pos h, Gr_It sl O m, Gr_It sl O m, It_add, ← It_sub]
      exact It_cong (fun j => (Fr_It h j).symm) acc n
    · rw [if_neg h, Gr_It sl O m]
      exact It_cong (fun j => by rw [Fr_no h]) acc n
theorem Gr_Fr (sl : Nat → Nat) (O m n : Nat) : Gr sl O m 0 n = (Fr sl O m n : Int) := Gr_It sl O m 0 n
/-- the slips of a set, of the first m -/
def ss (sl : Nat → Nat) (S : Nat) : Nat → Nat
  | 0 => 0
  | m + 1 => ss sl S m + if bi S m then sl m else 0
theorem ss_cong {sl sl' : Nat → Nat} {S S' : Nat} : ∀ {m : Nat}, (∀ c, c < m → bi S c = bi S' c) → (∀ c, c < m → sl c = sl' c) → ss sl S m = ss sl' S' m
  | 0, _, _ => rfl
  | m + 1, h, h2 => by
    show ss sl S m + (if bi S m then sl m else 0) = ss sl' S' m + (if bi S' m then sl' m else 0)
    rw [ss_cong (m := m) (fun c hc => h c (by omega)) (fun c hc => h2 c (by omega)), h m (by omega), h2 m (by omega)]
def sgn (k : Nat) : Int := if k % 2 = 0 then 1 else -1
theorem bits_1a : ∀ m, m < 6 → ∀ T, T < 2 ^ m → ∀ c, c < m → bi (2 ^ m + T) c = bi T c := by decide +kernel
theorem bits_1b : ∀ m, m < 6 → ∀ T, T < 2 ^ m → bi (2 ^ m + T) m = true ∧ bi T m = false := by decide +kernel
theorem bits_1 : ∀ m, m < 6 → ∀ T, T < 64 → ∀ c, c < 6 → T < 2 ^ m → (c < m → bi (2 ^ m + T) c = bi T c) ∧ bi (2 ^ m + T) m = true ∧ bi T m = false := fun m hm T _ c _ hT => ⟨fun hc => bits_1a m hm T hT c hc, bits_1b m hm T hT⟩
theorem bits_2a : ∀ m, m < 6 → ∀ T, T < 2 ^ m → ∀ O, O < 64 → (di (2 ^ m + T) O == 0) = (bi O m && (di T O == 0)) := by decide +kernel
theorem bits_2 : ∀ m, m < 6 → ∀ T, T < 64 → ∀ O, O < 64 → T < 2 ^ m → (di (2 ^ m + T) O = 0 ↔ (bi O m = true ∧ di T O = 0)) := fun m hm T _ O hO hT => by
  have h := bits_2a m hm T hT O hO
  constructor
  · intro q
    have h2 : (bi O m && (di T O == 0)) = true := by rw [← h, q]; rfl
    rw [Bool.and_eq_true] at h2
    exact ⟨h2.1, beq_iff_eq.mp h2.2⟩
  · intro q
    rw [q.1, q.2] at h
    exact beq_iff_eq.mp h
theorem bits_3a : ∀ m, m < 6 → ∀ T, T < 2 ^ m → ∀ O, O < 64 → pc (di (O % 2 ^ (m + 1)) T) = pc (di (O % 2 ^ m) T) + (if bi O m then 1 else 0) := by decide +kernel
theorem bits_3 : ∀ m, m < 6 → ∀ T, T < 64 → ∀ O, O < 64 → T < 2 ^ m → pc (di (O % 2 ^ (m + 1)) T) = pc (di (O % 2 ^ m) T) + (if bi O m then 1 else 0) := fun m hm T _ O hO hT => bits_3a m hm T hT O hO
theorem bits_4a : ∀ m, m < 6 → ∀ T, T < 2 ^ m → ∀ O, O < 64 → pc (di (O % 2 ^ (m + 1)) (2 ^ m + T)) = pc (di (O % 2 ^ m) T) := by decide +kernel
theorem bits_4 : ∀ m, m < 6 → ∀ T, T < 64 → ∀ O, O < 64 → T < 2 ^ m → pc (di (O % 2 ^ (m + 1)) (2 ^ m + T)) = pc (di (O % 2 ^ m) T) := fun m hm T _ O hO hT => bits_4a m hm T hT O hO
theorem bits_5a : ∀ T, T < 64 → ∀ O, O < T → ¬ di T O = 0 := by decide +kernel
theorem bits_5 : ∀ T, T < 64 → ∀ O, O < 64 → O < T → ¬ di T O = 0 := fun T hT O _ h => bits_5a T hT O h
theorem sgn_s (k : Nat) : sgn (k + 1) = - sgn k := by
  unfold sgn
  rcases (show k % 2 = 0 ∨ k % 2 = 1 by omega) with h | h
  · rw [if_pos h, if_neg (by omega)]
  · rw [if_neg (by omega : ¬ k % 2 = 0), if_pos (by omega : (k + 1) % 2 = 0)]; rfl
def term (sl : Nat → Nat) (O m acc n T : Nat) : Int := if di T O = 0 then sgn (pc (di (O % 2 ^ m) T)) * (ch (acc + ss sl T m) n : Int) else 0
theorem LSum (sl : Nat → Nat) {O : Nat} (hO : O < 64) : ∀ m, m ≤ 6 → ∀ acc n, fb_si (term sl O m acc n) (2 ^ m) = Gr sl O m acc n
  | 0, _, acc, n => by
    show fb_si (term sl O 0 acc n) (0 + 1) = (ch acc n : Int)
    rw [fb_si_succ]
    have e : di 0 O = 0 := Nat.zero_and _
    have e2 : sgn (pc (di (O % 2 ^ 0) 0)) = 1 := by rw [Nat.pow_zero, Nat.mod_one, show di 0 0 = 0 from rfl]; rfl
    show 0 + term sl O 0 acc n 0 = _
    unfold term
    rw [if_pos e, e2, show acc + ss sl 0 0 = acc from rfl, Int.one_mul, Int.zero_add]
  | m + 1, hm, acc, n => by
    have p64 : 2 ^ m ≤ 32 := by
      rcases (show m = 0 ∨ m = 1 ∨ m = 2 ∨ m = 3 ∨ m = 4 ∨ m = 5 by omega) with rfl | rfl | rfl | rfl | rfl | rfl <;> decide
    rw [show 2 ^ (m + 1) = 2 ^ m + 2 ^ m by rw [Nat.pow_succ]; omega, fb_si_split]
    have ssT : ∀ T, T < 2 ^ m → ss sl T (m + 1) = ss sl T m := fun T hT => by
      show ss sl T m + (if bi T m then sl m else 0) = ss sl T m
      rw [(bits_1 m (by omega) T (by omega) 0 (by omega) hT).2.2]; simp
    have ssT2 : ∀ T, T < 2 ^ m → ss sl (2 ^ m + T) (m + 1) = ss sl T m + sl m := fun T hT => by
      show ss sl (2 ^ m + T) m + (if bi (2 ^ m + T) m then sl m else 0) = ss sl T m + sl m
      rw [(bits_1 m (by omega) T (by omega) 0 (by omega) hT).2.1, if_pos rfl, ss_cong (S' := T) (sl' := sl) (fun c hc => (bits_1 m (by omega) T (by omega) c (by omega) hT).1 hc) (fun _ _ => rfl)]
    by_cases hb : bi O m = true
    · have e1 : fb_si (term sl O (m + 1) acc n) (2 ^ m) = - Gr sl O m acc n := by
        rw [← LSum sl hO m (by omega) acc n]
        rw [show - fb_si (term sl O m acc n) (2 ^ m) = (-1) * fb_si (term sl O m acc n) (2 ^ m) by omega, ← fb_si_mul]
        refine fb_si_cong (fun T hT => ?_)
        unfold term
        rw [bits_3 m (by omega) T (by omega) O hO hT, hb, if_pos rfl, sgn_s, ssT T hT]
        split
        · rw [Int.neg_mul, Int.neg_mul, Int.one_mul]
        · rfl
      have e2 : fb_si (fun T => term sl O (m + 1) acc n (2 ^ m + T)) (2 ^ m) = Gr sl O m (acc + sl m) n := by
        rw [← LSum sl hO m (by omega) (acc + sl m) n]
        refine fb_si_cong (fun T hT => ?_)
        unfold term
        rw [bits_4 m (by omega) T (by omega) O hO hT, ssT2 T hT]
        have hi := bits_2 m (by omega) T (by omega) O hO hT
        by_cases hd : di T O = 0
        · rw [if_pos (hi.mpr ⟨hb, hd⟩), if_pos hd, show acc + (ss sl T m + sl m) = acc + sl m + ss sl T m by omega]
        · rw [if_neg (fun z => hd (hi.mp z).2), if_neg hd]
      rw [e1, e2]
      show _ = (if bi O m then Gr sl O m (acc + sl m) n - Gr sl O m acc n else Gr sl O m acc n)
      rw [if_pos hb]; omega
    · have e1 : fb_si (term sl O (m + 1) acc n) (2 ^ m) = Gr sl O m acc n := by
        rw [← LSum sl hO m (by omega) acc n]
        refine fb_si_cong (fun T hT => ?_)
        unfold term
        rw [bits_3 m (by omega) T (by omega) O hO hT, if_neg hb, ssT T hT, Nat.add_zero]
      have e2 : fb_si (fun T => term sl O (m + 1) acc n (2 ^ m + T)) (2 ^ m) = 0 := by
        have z : ∀ k, fb_si (fun _ => (0 : Int)) k = 0 := fun k => by
          induction k with
          | zero => rfl
          | succ k ih => rw [fb_si_succ, ih]; rfl
        rw [← z (2 ^ m)]
        refine fb_si_cong (fun T hT => ?_)
        unfold term
        rw [if_neg (fun q => hb ((bits_2 m (by omega) T (by omega) O hO hT).mp q).1)]
      rw [e1, e2]
      show _ = (if bi O m then Gr sl O m (acc + sl m) n - Gr sl O m acc n else Gr sl O m acc n)
      rw [if_neg hb]; omega
/-- the sum over all some up to O, told by what is in and what is left out, is the number of ways -/
theorem inex (sl : Nat → Nat) {O p : Nat} (hp : p ≤ 6) (hO : O < 2 ^ p) (n : Nat) : fb_si (term sl O p 0 n) (O + 1) = (Fr sl O p n : Int) := by
  have p64 : 2 ^ p ≤ 64 := by
    rcases (show p = 0 ∨ p = 1 ∨ p = 2 ∨ p = 3 ∨ p = 4 ∨ p = 5 ∨ p = 6 by omega) with rfl | rfl | rfl | rfl | rfl | rfl | rfl <;> decide
  rw [← Gr_Fr, ← LSum sl (O := O) (by omega) p hp 0 n]
  refine (si_ext (by omega) (fun k h1 h2 => ?_)).symm
  unfold term
  rw [if_neg (bits_5 k (by omega) O (by omega) (by omega))]
end

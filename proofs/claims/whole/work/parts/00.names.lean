-- ===== PART A: goes FIRST, ahead of the names: the tables' words, and 'selects' of the private methods out of them =====
/-- a private method of a class that the tables say can be made, by its rows of tables_1 -/
def lw_okq (q : MethodName × Nat) : Prop := (q.1.cls ≠ "java/lang/invoke/MethodHandle" ∧ q.1.cls ≠ "java/lang/invoke/VarHandle") ∧ Cond.instantiable q.1.cls q.2 ∈ tables_1 ∧ Cond.privateMethod q.1 ∈ tables_1 ∧ Cond.instanceMethod q.1 ∈ tables_1
theorem lw_p0 : lw_okq (⟨"RailsOfIce", "refuse", "(I)I"⟩, 11) := ⟨⟨by decide +kernel, by decide +kernel⟩, List.mem_of_getElem? (i := 11) (by decide +kernel), List.mem_of_getElem? (i := 169) (by decide +kernel), List.mem_of_getElem? (i := 170) (by decide +kernel)⟩
theorem lw_p1 : lw_okq (⟨"RailsOfIce$Letters", "brokenStatementAt", "(I)I"⟩, 2) := ⟨⟨by decide +kernel, by decide +kernel⟩, List.mem_of_getElem? (i := 114) (by decide +kernel), List.mem_of_getElem? (i := 185) (by decide +kernel), List.mem_of_getElem? (i := 186) (by decide +kernel)⟩
theorem lw_p2 : lw_okq (⟨"RailsOfIce", "tellLine", "()I"⟩, 11) := ⟨⟨by decide +kernel, by decide +kernel⟩, List.mem_of_getElem? (i := 11) (by decide +kernel), List.mem_of_getElem? (i := 203) (by decide +kernel), List.mem_of_getElem? (i := 204) (by decide +kernel)⟩
theorem lw_p3 : lw_okq (⟨"RailsOfIce", "tellStatement", "(I)Z"⟩, 11) := ⟨⟨by decide +kernel, by decide +kernel⟩, List.mem_of_getElem? (i := 11) (by decide +kernel), List.mem_of_getElem? (i := 218) (by decide +kernel), List.mem_of_getElem? (i := 219) (by decide +kernel)⟩
theorem lw_p4 : lw_okq (⟨"RailsOfIce$Line", "freezeAll", "()V"⟩, 18) := ⟨⟨by decide +kernel, by decide +kernel⟩, List.mem_of_getElem? (i := 19) (by decide +kernel), List.mem_of_getElem? (i := 264) (by decide +kernel), List.mem_of_getElem? (i := 265) (by decide +kernel)⟩
theorem lw_p5 : lw_okq (⟨"RailsOfIce$Line", "meltAll", "()V"⟩, 18) := ⟨⟨by decide +kernel, by decide +kernel⟩, List.mem_of_getElem? (i := 19) (by decide +kernel), List.mem_of_getElem? (i := 271) (by decide +kernel), List.mem_of_getElem? (i := 272) (by decide +kernel)⟩
theorem lw_p6 : lw_okq (⟨"RailsOfIce$Line", "moveTrain", "(I)V"⟩, 18) := ⟨⟨by decide +kernel, by decide +kernel⟩, List.mem_of_getElem? (i := 19) (by decide +kernel), List.mem_of_getElem? (i := 276) (by decide +kernel), List.mem_of_getElem? (i := 277) (by decide +kernel)⟩
theorem lw_p7 : lw_okq (⟨"RailsOfIce$Line", "isTaken", "(I)Z"⟩, 18) := ⟨⟨by decide +kernel, by decide +kernel⟩, List.mem_of_getElem? (i := 19) (by decide +kernel), List.mem_of_getElem? (i := 283) (by decide +kernel), List.mem_of_getElem? (i := 284) (by decide +kernel)⟩
theorem lw_p8 : lw_okq (⟨"RailsOfIce$Line", "sinkTrains", "()V"⟩, 18) := ⟨⟨by decide +kernel, by decide +kernel⟩, List.mem_of_getElem? (i := 19) (by decide +kernel), List.mem_of_getElem? (i := 287) (by decide +kernel), List.mem_of_getElem? (i := 288) (by decide +kernel)⟩
theorem lw_p9 : lw_okq (⟨"RailsOfIce", "noYard", "(I)Z"⟩, 11) := ⟨⟨by decide +kernel, by decide +kernel⟩, List.mem_of_getElem? (i := 11) (by decide +kernel), List.mem_of_getElem? (i := 300) (by decide +kernel), List.mem_of_getElem? (i := 301) (by decide +kernel)⟩
theorem lw_p10 : lw_okq (⟨"RailsOfIce$Past", "dropOldest", "()V"⟩, 2) := ⟨⟨by decide +kernel, by decide +kernel⟩, List.mem_of_getElem? (i := 97) (by decide +kernel), List.mem_of_getElem? (i := 315) (by decide +kernel), List.mem_of_getElem? (i := 316) (by decide +kernel)⟩
theorem lw_p11 : lw_okq (⟨"RailsOfIce", "noTrain", "(I)Z"⟩, 11) := ⟨⟨by decide +kernel, by decide +kernel⟩, List.mem_of_getElem? (i := 11) (by decide +kernel), List.mem_of_getElem? (i := 343) (by decide +kernel), List.mem_of_getElem? (i := 344) (by decide +kernel)⟩
theorem lw_p12 : lw_okq (⟨"RailsOfIce", "goInMind", "(I)V"⟩, 11) := ⟨⟨by decide +kernel, by decide +kernel⟩, List.mem_of_getElem? (i := 11) (by decide +kernel), List.mem_of_getElem? (i := 371) (by decide +kernel), List.mem_of_getElem? (i := 372) (by decide +kernel)⟩
theorem lw_p13 : lw_okq (⟨"RailsOfIce", "notAhead", "(I)I"⟩, 11) := ⟨⟨by decide +kernel, by decide +kernel⟩, List.mem_of_getElem? (i := 11) (by decide +kernel), List.mem_of_getElem? (i := 409) (by decide +kernel), List.mem_of_getElem? (i := 410) (by decide +kernel)⟩
theorem lw_p14 : lw_okq (⟨"RailsOfIce", "getsThrough", "(I)Z"⟩, 11) := ⟨⟨by decide +kernel, by decide +kernel⟩, List.mem_of_getElem? (i := 11) (by decide +kernel), List.mem_of_getElem? (i := 417) (by decide +kernel), List.mem_of_getElem? (i := 418) (by decide +kernel)⟩
theorem lw_p15 : lw_okq (⟨"RailsOfIce", "greatestWeight", "(I)I"⟩, 11) := ⟨⟨by decide +kernel, by decide +kernel⟩, List.mem_of_getElem? (i := 11) (by decide +kernel), List.mem_of_getElem? (i := 433) (by decide +kernel), List.mem_of_getElem? (i := 434) (by decide +kernel)⟩
def lw_privs_1 : List (MethodName × Nat) := [(⟨"RailsOfIce", "refuse", "(I)I"⟩, 11), (⟨"RailsOfIce$Letters", "brokenStatementAt", "(I)I"⟩, 2), (⟨"RailsOfIce", "tellLine", "()I"⟩, 11), (⟨"RailsOfIce", "tellStatement", "(I)Z"⟩, 11), (⟨"RailsOfIce$Line", "freezeAll", "()V"⟩, 18), (⟨"RailsOfIce$Line", "meltAll", "()V"⟩, 18), (⟨"RailsOfIce$Line", "moveTrain", "(I)V"⟩, 18), (⟨"RailsOfIce$Line", "isTaken", "(I)Z"⟩, 18), (⟨"RailsOfIce$Line", "sinkTrains", "()V"⟩, 18), (⟨"RailsOfIce", "noYard", "(I)Z"⟩, 11), (⟨"RailsOfIce$Past", "dropOldest", "()V"⟩, 2), (⟨"RailsOfIce", "noTrain", "(I)Z"⟩, 11), (⟨"RailsOfIce", "goInMind", "(I)V"⟩, 11), (⟨"RailsOfIce", "notAhead", "(I)I"⟩, 11), (⟨"RailsOfIce", "getsThrough", "(I)Z"⟩, 11), (⟨"RailsOfIce", "greatestWeight", "(I)I"⟩, 11)]
theorem lw_r1 : ∀ q ∈ lw_privs_1, lw_okq q := List.forall_mem_cons.mpr ⟨lw_p0, List.forall_mem_cons.mpr ⟨lw_p1, List.forall_mem_cons.mpr ⟨lw_p2, List.forall_mem_cons.mpr ⟨lw_p3, List.forall_mem_cons.mpr ⟨lw_p4, List.forall_mem_cons.mpr ⟨lw_p5, List.forall_mem_cons.mpr ⟨lw_p6, List.forall_mem_cons.mpr ⟨lw_p7, List.forall_mem_cons.mpr ⟨lw_p8, List.forall_mem_cons.mpr ⟨lw_p9, List.forall_mem_cons.mpr ⟨lw_p10, List.forall_mem_cons.mpr ⟨lw_p11, List.forall_mem_cons.mpr ⟨lw_p12, List.forall_mem_cons.mpr ⟨lw_p13, List.forall_mem_cons.mpr ⟨lw_p14, List.forall_mem_cons.mpr ⟨lw_p15, fun _ h => absurd h List.not_mem_nil⟩⟩⟩⟩⟩⟩⟩⟩⟩⟩⟩⟩⟩⟩⟩⟩
theorem lw_p16 : lw_okq (⟨"RailsOfIce", "greatestWarmth", "(I)I"⟩, 11) := ⟨⟨by decide +kernel, by decide +kernel⟩, List.mem_of_getElem? (i := 11) (by decide +kernel), List.mem_of_getElem? (i := 437) (by decide +kernel), List.mem_of_getElem? (i := 438) (by decide +kernel)⟩
theorem lw_p17 : lw_okq (⟨"RailsOfIce", "soonestPace", "(I)I"⟩, 11) := ⟨⟨by decide +kernel, by decide +kernel⟩, List.mem_of_getElem? (i := 11) (by decide +kernel), List.mem_of_getElem? (i := 441) (by decide +kernel), List.mem_of_getElem? (i := 442) (by decide +kernel)⟩
theorem lw_p18 : lw_okq (⟨"RailsOfIce", "throughInMind", "()I"⟩, 11) := ⟨⟨by decide +kernel, by decide +kernel⟩, List.mem_of_getElem? (i := 11) (by decide +kernel), List.mem_of_getElem? (i := 449) (by decide +kernel), List.mem_of_getElem? (i := 450) (by decide +kernel)⟩
theorem lw_p19 : lw_okq (⟨"RailsOfIce", "pouredGetsThrough", "(II)Z"⟩, 11) := ⟨⟨by decide +kernel, by decide +kernel⟩, List.mem_of_getElem? (i := 11) (by decide +kernel), List.mem_of_getElem? (i := 472) (by decide +kernel), List.mem_of_getElem? (i := 473) (by decide +kernel)⟩
theorem lw_p20 : lw_okq (⟨"RailsOfIce", "lineUp", "()I"⟩, 11) := ⟨⟨by decide +kernel, by decide +kernel⟩, List.mem_of_getElem? (i := 11) (by decide +kernel), List.mem_of_getElem? (i := 489) (by decide +kernel), List.mem_of_getElem? (i := 490) (by decide +kernel)⟩
theorem lw_p21 : lw_okq (⟨"RailsOfIce", "takeQueue", "(I)V"⟩, 11) := ⟨⟨by decide +kernel, by decide +kernel⟩, List.mem_of_getElem? (i := 11) (by decide +kernel), List.mem_of_getElem? (i := 493) (by decide +kernel), List.mem_of_getElem? (i := 494) (by decide +kernel)⟩
theorem lw_p22 : lw_okq (⟨"RailsOfIce", "queueDigits", "(I)I"⟩, 11) := ⟨⟨by decide +kernel, by decide +kernel⟩, List.mem_of_getElem? (i := 11) (by decide +kernel), List.mem_of_getElem? (i := 498) (by decide +kernel), List.mem_of_getElem? (i := 499) (by decide +kernel)⟩
theorem lw_p23 : lw_okq (⟨"RailsOfIce", "nextQueue", "(I)Z"⟩, 11) := ⟨⟨by decide +kernel, by decide +kernel⟩, List.mem_of_getElem? (i := 11) (by decide +kernel), List.mem_of_getElem? (i := 502) (by decide +kernel), List.mem_of_getElem? (i := 503) (by decide +kernel)⟩
theorem lw_p24 : lw_okq (⟨"RailsOfIce", "swapQueue", "(II)V"⟩, 11) := ⟨⟨by decide +kernel, by decide +kernel⟩, List.mem_of_getElem? (i := 11) (by decide +kernel), List.mem_of_getElem? (i := 506) (by decide +kernel), List.mem_of_getElem? (i := 507) (by decide +kernel)⟩
theorem lw_p25 : lw_okq (⟨"RailsOfIce", "laterOf", "(IIII)I"⟩, 11) := ⟨⟨by decide +kernel, by decide +kernel⟩, List.mem_of_getElem? (i := 11) (by decide +kernel), List.mem_of_getElem? (i := 514) (by decide +kernel), List.mem_of_getElem? (i := 515) (by decide +kernel)⟩
theorem lw_p26 : lw_okq (⟨"RailsOfIce", "canBeSaid", "(I)Z"⟩, 11) := ⟨⟨by decide +kernel, by decide +kernel⟩, List.mem_of_getElem? (i := 11) (by decide +kernel), List.mem_of_getElem? (i := 523) (by decide +kernel), List.mem_of_getElem? (i := 524) (by decide +kernel)⟩
theorem lw_p27 : lw_okq (⟨"RailsOfIce", "sureOfMarch", "()I"⟩, 11) := ⟨⟨by decide +kernel, by decide +kernel⟩, List.mem_of_getElem? (i := 11) (by decide +kernel), List.mem_of_getElem? (i := 559) (by decide +kernel), List.mem_of_getElem? (i := 560) (by decide +kernel)⟩
theorem lw_p28 : lw_okq (⟨"RailsOfIce", "marchYards", "()I"⟩, 11) := ⟨⟨by decide +kernel, by decide +kernel⟩, List.mem_of_getElem? (i := 11) (by decide +kernel), List.mem_of_getElem? (i := 563) (by decide +kernel), List.mem_of_getElem? (i := 564) (by decide +kernel)⟩
theorem lw_p29 : lw_okq (⟨"RailsOfIce", "leastAfter", "(II)I"⟩, 11) := ⟨⟨by decide +kernel, by decide +kernel⟩, List.mem_of_getElem? (i := 11) (by decide +kernel), List.mem_of_getElem? (i := 568) (by decide +kernel), List.mem_of_getElem? (i := 569) (by decide +kernel)⟩
theorem lw_p30 : lw_okq (⟨"RailsOfIce", "surePouring", "(I)I"⟩, 11) := ⟨⟨by decide +kernel, by decide +kernel⟩, List.mem_of_getElem? (i := 11) (by decide +kernel), List.mem_of_getElem? (i := 572) (by decide +kernel), List.mem_of_getElem? (i := 573) (by decide +kernel)⟩
theorem lw_p31 : lw_okq (⟨"RailsOfIce", "getsThroughAtNoon", "(II)Z"⟩, 11) := ⟨⟨by decide +kernel, by decide +kernel⟩, List.mem_of_getElem? (i := 11) (by decide +kernel), List.mem_of_getElem? (i := 581) (by decide +kernel), List.mem_of_getElem? (i := 582) (by decide +kernel)⟩
def lw_privs_2 : List (MethodName × Nat) := [(⟨"RailsOfIce", "greatestWarmth", "(I)I"⟩, 11), (⟨"RailsOfIce", "soonestPace", "(I)I"⟩, 11), (⟨"RailsOfIce", "throughInMind", "()I"⟩, 11), (⟨"RailsOfIce", "pouredGetsThrough", "(II)Z"⟩, 11), (⟨"RailsOfIce", "lineUp", "()I"⟩, 11), (⟨"RailsOfIce", "takeQueue", "(I)V"⟩, 11), (⟨"RailsOfIce", "queueDigits", "(I)I"⟩, 11), (⟨"RailsOfIce", "nextQueue", "(I)Z"⟩, 11), (⟨"RailsOfIce", "swapQueue", "(II)V"⟩, 11), (⟨"RailsOfIce", "laterOf", "(IIII)I"⟩, 11), (⟨"RailsOfIce", "canBeSaid", "(I)Z"⟩, 11), (⟨"RailsOfIce", "sureOfMarch", "()I"⟩, 11), (⟨"RailsOfIce", "marchYards", "()I"⟩, 11), (⟨"RailsOfIce", "leastAfter", "(II)I"⟩, 11), (⟨"RailsOfIce", "surePouring", "(I)I"⟩, 11), (⟨"RailsOfIce", "getsThroughAtNoon", "(II)Z"⟩, 11)]
theorem lw_r2 : ∀ q ∈ lw_privs_2, lw_okq q := List.forall_mem_cons.mpr ⟨lw_p16, List.forall_mem_cons.mpr ⟨lw_p17, List.forall_mem_cons.mpr ⟨lw_p18, List.forall_mem_cons.mpr ⟨lw_p19, List.forall_mem_cons.mpr ⟨lw_p20, List.forall_mem_cons.mpr ⟨lw_p21, List.forall_mem_cons.mpr ⟨lw_p22, List.forall_mem_cons.mpr ⟨lw_p23, List.forall_mem_cons.mpr ⟨lw_p24, List.forall_mem_cons.mpr ⟨lw_p25, List.forall_mem_cons.mpr ⟨lw_p26, List.forall_mem_cons.mpr ⟨lw_p27, List.forall_mem_cons.mpr ⟨lw_p28, List.forall_mem_cons.mpr ⟨lw_p29, List.forall_mem_cons.mpr ⟨lw_p30, List.forall_mem_cons.mpr ⟨lw_p31, fun _ h => absurd h List.not_mem_nil⟩⟩⟩⟩⟩⟩⟩⟩⟩⟩⟩⟩⟩⟩⟩⟩
theorem lw_p32 : lw_okq (⟨"RailsOfIce", "othersThroughNow", "(I)I"⟩, 11) := ⟨⟨by decide +kernel, by decide +kernel⟩, List.mem_of_getElem? (i := 11) (by decide +kernel), List.mem_of_getElem? (i := 612) (by decide +kernel), List.mem_of_getElem? (i := 613) (by decide +kernel)⟩
theorem lw_p33 : lw_okq (⟨"RailsOfIce", "othersThroughWithout", "(I)I"⟩, 11) := ⟨⟨by decide +kernel, by decide +kernel⟩, List.mem_of_getElem? (i := 11) (by decide +kernel), List.mem_of_getElem? (i := 616) (by decide +kernel), List.mem_of_getElem? (i := 617) (by decide +kernel)⟩
theorem lw_p34 : lw_okq (⟨"RailsOfIceModel", "refuse", "(I)I"⟩, 41) := ⟨⟨by decide +kernel, by decide +kernel⟩, List.mem_of_getElem? (i := 681) (by decide +kernel), List.mem_of_getElem? (i := 815) (by decide +kernel), List.mem_of_getElem? (i := 816) (by decide +kernel)⟩
theorem lw_p35 : lw_okq (⟨"RailsOfIceModel", "readStatement", "()V"⟩, 41) := ⟨⟨by decide +kernel, by decide +kernel⟩, List.mem_of_getElem? (i := 681) (by decide +kernel), List.mem_of_getElem? (i := 823) (by decide +kernel), List.mem_of_getElem? (i := 824) (by decide +kernel)⟩
theorem lw_p36 : lw_okq (⟨"RailsOfIceModel", "here", "()I"⟩, 41) := ⟨⟨by decide +kernel, by decide +kernel⟩, List.mem_of_getElem? (i := 681) (by decide +kernel), List.mem_of_getElem? (i := 827) (by decide +kernel), List.mem_of_getElem? (i := 828) (by decide +kernel)⟩
theorem lw_p37 : lw_okq (⟨"RailsOfIceModel", "readNumbers", "(II)V"⟩, 41) := ⟨⟨by decide +kernel, by decide +kernel⟩, List.mem_of_getElem? (i := 681) (by decide +kernel), List.mem_of_getElem? (i := 834) (by decide +kernel), List.mem_of_getElem? (i := 835) (by decide +kernel)⟩
theorem lw_p38 : lw_okq (⟨"RailsOfIceModel", "readDigits", "(I)I"⟩, 41) := ⟨⟨by decide +kernel, by decide +kernel⟩, List.mem_of_getElem? (i := 681) (by decide +kernel), List.mem_of_getElem? (i := 838) (by decide +kernel), List.mem_of_getElem? (i := 839) (by decide +kernel)⟩
theorem lw_p39 : lw_okq (⟨"RailsOfIceModel", "open", "()V"⟩, 41) := ⟨⟨by decide +kernel, by decide +kernel⟩, List.mem_of_getElem? (i := 681) (by decide +kernel), List.mem_of_getElem? (i := 847) (by decide +kernel), List.mem_of_getElem? (i := 848) (by decide +kernel)⟩
theorem lw_p40 : lw_okq (⟨"RailsOfIceModel", "carryAll", "([IZ)V"⟩, 41) := ⟨⟨by decide +kernel, by decide +kernel⟩, List.mem_of_getElem? (i := 681) (by decide +kernel), List.mem_of_getElem? (i := 851) (by decide +kernel), List.mem_of_getElem? (i := 852) (by decide +kernel)⟩
theorem lw_p41 : lw_okq (⟨"RailsOfIceModel", "carry", "(I)I"⟩, 41) := ⟨⟨by decide +kernel, by decide +kernel⟩, List.mem_of_getElem? (i := 681) (by decide +kernel), List.mem_of_getElem? (i := 855) (by decide +kernel), List.mem_of_getElem? (i := 856) (by decide +kernel)⟩
theorem lw_p42 : lw_okq (⟨"RailsOfIceModel", "comesTold", "(I)Z"⟩, 41) := ⟨⟨by decide +kernel, by decide +kernel⟩, List.mem_of_getElem? (i := 681) (by decide +kernel), List.mem_of_getElem? (i := 859) (by decide +kernel), List.mem_of_getElem? (i := 860) (by decide +kernel)⟩
theorem lw_p43 : lw_okq (⟨"RailsOfIceModel", "isBeyond", "(I)Z"⟩, 41) := ⟨⟨by decide +kernel, by decide +kernel⟩, List.mem_of_getElem? (i := 681) (by decide +kernel), List.mem_of_getElem? (i := 865) (by decide +kernel), List.mem_of_getElem? (i := 866) (by decide +kernel)⟩
theorem lw_p44 : lw_okq (⟨"RailsOfIceModel", "isYard", "(I)Z"⟩, 41) := ⟨⟨by decide +kernel, by decide +kernel⟩, List.mem_of_getElem? (i := 681) (by decide +kernel), List.mem_of_getElem? (i := 869) (by decide +kernel), List.mem_of_getElem? (i := 870) (by decide +kernel)⟩
theorem lw_p45 : lw_okq (⟨"RailsOfIceModel", "trainComes", "(III)V"⟩, 41) := ⟨⟨by decide +kernel, by decide +kernel⟩, List.mem_of_getElem? (i := 681) (by decide +kernel), List.mem_of_getElem? (i := 875) (by decide +kernel), List.mem_of_getElem? (i := 876) (by decide +kernel)⟩
theorem lw_p46 : lw_okq (⟨"RailsOfIceModel", "isTrain", "(I)Z"⟩, 41) := ⟨⟨by decide +kernel, by decide +kernel⟩, List.mem_of_getElem? (i := 681) (by decide +kernel), List.mem_of_getElem? (i := 879) (by decide +kernel), List.mem_of_getElem? (i := 880) (by decide +kernel)⟩
theorem lw_p47 : lw_okq (⟨"RailsOfIceModel", "goHours", "(I)V"⟩, 41) := ⟨⟨by decide +kernel, by decide +kernel⟩, List.mem_of_getElem? (i := 681) (by decide +kernel), List.mem_of_getElem? (i := 884) (by decide +kernel), List.mem_of_getElem? (i := 885) (by decide +kernel)⟩
def lw_privs_3 : List (MethodName × Nat) := [(⟨"RailsOfIce", "othersThroughNow", "(I)I"⟩, 11), (⟨"RailsOfIce", "othersThroughWithout", "(I)I"⟩, 11), (⟨"RailsOfIceModel", "refuse", "(I)I"⟩, 41), (⟨"RailsOfIceModel", "readStatement", "()V"⟩, 41), (⟨"RailsOfIceModel", "here", "()I"⟩, 41), (⟨"RailsOfIceModel", "readNumbers", "(II)V"⟩, 41), (⟨"RailsOfIceModel", "readDigits", "(I)I"⟩, 41), (⟨"RailsOfIceModel", "open", "()V"⟩, 41), (⟨"RailsOfIceModel", "carryAll", "([IZ)V"⟩, 41), (⟨"RailsOfIceModel", "carry", "(I)I"⟩, 41), (⟨"RailsOfIceModel", "comesTold", "(I)Z"⟩, 41), (⟨"RailsOfIceModel", "isBeyond", "(I)Z"⟩, 41), (⟨"RailsOfIceModel", "isYard", "(I)Z"⟩, 41), (⟨"RailsOfIceModel", "trainComes", "(III)V"⟩, 41), (⟨"RailsOfIceModel", "isTrain", "(I)Z"⟩, 41), (⟨"RailsOfIceModel", "goHours", "(I)V"⟩, 41)]
theorem lw_r3 : ∀ q ∈ lw_privs_3, lw_okq q := List.forall_mem_cons.mpr ⟨lw_p32, List.forall_mem_cons.mpr ⟨lw_p33, List.forall_mem_cons.mpr ⟨lw_p34, List.forall_mem_cons.mpr ⟨lw_p35, List.forall_mem_cons.mpr ⟨lw_p36, List.forall_mem_cons.mpr ⟨lw_p37, List.forall_mem_cons.mpr ⟨lw_p38, List.forall_mem_cons.mpr ⟨lw_p39, List.forall_mem_cons.mpr ⟨lw_p40, List.forall_mem_cons.mpr ⟨lw_p41, List.forall_mem_cons.mpr ⟨lw_p42, List.forall_mem_cons.mpr ⟨lw_p43, List.forall_mem_cons.mpr ⟨lw_p44, List.forall_mem_cons.mpr ⟨lw_p45, List.forall_mem_cons.mpr ⟨lw_p46, List.forall_mem_cons.mpr ⟨lw_p47, fun _ h => absurd h List.not_mem_nil⟩⟩⟩⟩⟩⟩⟩⟩⟩⟩⟩⟩⟩⟩⟩⟩
theorem lw_p48 : lw_okq (⟨"RailsOfIceModel", "hourOn", "()V"⟩, 41) := ⟨⟨by decide +kernel, by decide +kernel⟩, List.mem_of_getElem? (i := 681) (by decide +kernel), List.mem_of_getElem? (i := 888) (by decide +kernel), List.mem_of_getElem? (i := 889) (by decide +kernel)⟩
theorem lw_p49 : lw_okq (⟨"RailsOfIceModel", "freezes", "(I)I"⟩, 41) := ⟨⟨by decide +kernel, by decide +kernel⟩, List.mem_of_getElem? (i := 681) (by decide +kernel), List.mem_of_getElem? (i := 892) (by decide +kernel), List.mem_of_getElem? (i := 893) (by decide +kernel)⟩
theorem lw_p50 : lw_okq (⟨"RailsOfIceModel", "melts", "(I)I"⟩, 41) := ⟨⟨by decide +kernel, by decide +kernel⟩, List.mem_of_getElem? (i := 681) (by decide +kernel), List.mem_of_getElem? (i := 902) (by decide +kernel), List.mem_of_getElem? (i := 903) (by decide +kernel)⟩
theorem lw_p51 : lw_okq (⟨"RailsOfIceModel", "trainOn", "(I)V"⟩, 41) := ⟨⟨by decide +kernel, by decide +kernel⟩, List.mem_of_getElem? (i := 681) (by decide +kernel), List.mem_of_getElem? (i := 906) (by decide +kernel), List.mem_of_getElem? (i := 907) (by decide +kernel)⟩
theorem lw_p52 : lw_okq (⟨"RailsOfIceModel", "bears", "(II)Z"⟩, 41) := ⟨⟨by decide +kernel, by decide +kernel⟩, List.mem_of_getElem? (i := 681) (by decide +kernel), List.mem_of_getElem? (i := 910) (by decide +kernel), List.mem_of_getElem? (i := 911) (by decide +kernel)⟩
theorem lw_p53 : lw_okq (⟨"RailsOfIceModel", "wants", "(II)I"⟩, 41) := ⟨⟨by decide +kernel, by decide +kernel⟩, List.mem_of_getElem? (i := 681) (by decide +kernel), List.mem_of_getElem? (i := 914) (by decide +kernel), List.mem_of_getElem? (i := 915) (by decide +kernel)⟩
theorem lw_p54 : lw_okq (⟨"RailsOfIceModel", "isFree", "(II)Z"⟩, 41) := ⟨⟨by decide +kernel, by decide +kernel⟩, List.mem_of_getElem? (i := 681) (by decide +kernel), List.mem_of_getElem? (i := 918) (by decide +kernel), List.mem_of_getElem? (i := 919) (by decide +kernel)⟩
theorem lw_p55 : lw_okq (⟨"RailsOfIceModel", "close", "()V"⟩, 41) := ⟨⟨by decide +kernel, by decide +kernel⟩, List.mem_of_getElem? (i := 681) (by decide +kernel), List.mem_of_getElem? (i := 925) (by decide +kernel), List.mem_of_getElem? (i := 926) (by decide +kernel)⟩
theorem lw_p56 : lw_okq (⟨"RailsOfIceModel", "keepTurn", "()V"⟩, 41) := ⟨⟨by decide +kernel, by decide +kernel⟩, List.mem_of_getElem? (i := 681) (by decide +kernel), List.mem_of_getElem? (i := 953) (by decide +kernel), List.mem_of_getElem? (i := 954) (by decide +kernel)⟩
theorem lw_p57 : lw_okq (⟨"RailsOfIceModel", "howMany", "(I)I"⟩, 41) := ⟨⟨by decide +kernel, by decide +kernel⟩, List.mem_of_getElem? (i := 681) (by decide +kernel), List.mem_of_getElem? (i := 985) (by decide +kernel), List.mem_of_getElem? (i := 986) (by decide +kernel)⟩
theorem lw_p58 : lw_okq (⟨"RailsOfIceModel", "wrongAhead", "(II)I"⟩, 41) := ⟨⟨by decide +kernel, by decide +kernel⟩, List.mem_of_getElem? (i := 681) (by decide +kernel), List.mem_of_getElem? (i := 1020) (by decide +kernel), List.mem_of_getElem? (i := 1021) (by decide +kernel)⟩
theorem lw_p59 : lw_okq (⟨"RailsOfIceModel", "throughIn", "(I)I"⟩, 41) := ⟨⟨by decide +kernel, by decide +kernel⟩, List.mem_of_getElem? (i := 681) (by decide +kernel), List.mem_of_getElem? (i := 1024) (by decide +kernel), List.mem_of_getElem? (i := 1025) (by decide +kernel)⟩
theorem lw_p60 : lw_okq (⟨"RailsOfIceModel", "throughBy72", "()I"⟩, 41) := ⟨⟨by decide +kernel, by decide +kernel⟩, List.mem_of_getElem? (i := 681) (by decide +kernel), List.mem_of_getElem? (i := 1040) (by decide +kernel), List.mem_of_getElem? (i := 1041) (by decide +kernel)⟩
theorem lw_p61 : lw_okq (⟨"RailsOfIceModel", "pour", "(I)V"⟩, 41) := ⟨⟨by decide +kernel, by decide +kernel⟩, List.mem_of_getElem? (i := 681) (by decide +kernel), List.mem_of_getElem? (i := 1044) (by decide +kernel), List.mem_of_getElem? (i := 1045) (by decide +kernel)⟩
theorem lw_p62 : lw_okq (⟨"RailsOfIceModel", "allBear", "(I)Z"⟩, 41) := ⟨⟨by decide +kernel, by decide +kernel⟩, List.mem_of_getElem? (i := 681) (by decide +kernel), List.mem_of_getElem? (i := 1059) (by decide +kernel), List.mem_of_getElem? (i := 1060) (by decide +kernel)⟩
theorem lw_p63 : lw_okq (⟨"RailsOfIceModel", "weakestYard", "()I"⟩, 41) := ⟨⟨by decide +kernel, by decide +kernel⟩, List.mem_of_getElem? (i := 681) (by decide +kernel), List.mem_of_getElem? (i := 1063) (by decide +kernel), List.mem_of_getElem? (i := 1064) (by decide +kernel)⟩
def lw_privs_4 : List (MethodName × Nat) := [(⟨"RailsOfIceModel", "hourOn", "()V"⟩, 41), (⟨"RailsOfIceModel", "freezes", "(I)I"⟩, 41), (⟨"RailsOfIceModel", "melts", "(I)I"⟩, 41), (⟨"RailsOfIceModel", "trainOn", "(I)V"⟩, 41), (⟨"RailsOfIceModel", "bears", "(II)Z"⟩, 41), (⟨"RailsOfIceModel", "wants", "(II)I"⟩, 41), (⟨"RailsOfIceModel", "isFree", "(II)Z"⟩, 41), (⟨"RailsOfIceModel", "close", "()V"⟩, 41), (⟨"RailsOfIceModel", "keepTurn", "()V"⟩, 41), (⟨"RailsOfIceModel", "howMany", "(I)I"⟩, 41), (⟨"RailsOfIceModel", "wrongAhead", "(II)I"⟩, 41), (⟨"RailsOfIceModel", "throughIn", "(I)I"⟩, 41), (⟨"RailsOfIceModel", "throughBy72", "()I"⟩, 41), (⟨"RailsOfIceModel", "pour", "(I)V"⟩, 41), (⟨"RailsOfIceModel", "allBear", "(I)Z"⟩, 41), (⟨"RailsOfIceModel", "weakestYard", "()I"⟩, 41)]
theorem lw_r4 : ∀ q ∈ lw_privs_4, lw_okq q := List.forall_mem_cons.mpr ⟨lw_p48, List.forall_mem_cons.mpr ⟨lw_p49, List.forall_mem_cons.mpr ⟨lw_p50, List.forall_mem_cons.mpr ⟨lw_p51, List.forall_mem_cons.mpr ⟨lw_p52, List.forall_mem_cons.mpr ⟨lw_p53, List.forall_mem_cons.mpr ⟨lw_p54, List.forall_mem_cons.mpr ⟨lw_p55, List.forall_mem_cons.mpr ⟨lw_p56, List.forall_mem_cons.mpr ⟨lw_p57, List.forall_mem_cons.mpr ⟨lw_p58, List.forall_mem_cons.mpr ⟨lw_p59, List.forall_mem_cons.mpr ⟨lw_p60, List.forall_mem_cons.mpr ⟨lw_p61, List.forall_mem_cons.mpr ⟨lw_p62, List.forall_mem_cons.mpr ⟨lw_p63, fun _ h => absurd h List.not_mem_nil⟩⟩⟩⟩⟩⟩⟩⟩⟩⟩⟩⟩⟩⟩⟩⟩
theorem lw_p64 : lw_okq (⟨"RailsOfIceModel", "layOrder", "(II)V"⟩, 41) := ⟨⟨by decide +kernel, by decide +kernel⟩, List.mem_of_getElem? (i := 681) (by decide +kernel), List.mem_of_getElem? (i := 1074) (by decide +kernel), List.mem_of_getElem? (i := 1075) (by decide +kernel)⟩
theorem lw_p65 : lw_okq (⟨"RailsOfIceModel", "besideMean", "(I)I"⟩, 41) := ⟨⟨by decide +kernel, by decide +kernel⟩, List.mem_of_getElem? (i := 681) (by decide +kernel), List.mem_of_getElem? (i := 1094) (by decide +kernel), List.mem_of_getElem? (i := 1095) (by decide +kernel)⟩
theorem lw_p66 : lw_okq (⟨"RailsOfIceModel", "haltNear", "(I)I"⟩, 41) := ⟨⟨by decide +kernel, by decide +kernel⟩, List.mem_of_getElem? (i := 681) (by decide +kernel), List.mem_of_getElem? (i := 1102) (by decide +kernel), List.mem_of_getElem? (i := 1103) (by decide +kernel)⟩
theorem lw_p67 : lw_okq (⟨"RailsOfIceModel", "leastOfFew", "(III)I"⟩, 41) := ⟨⟨by decide +kernel, by decide +kernel⟩, List.mem_of_getElem? (i := 681) (by decide +kernel), List.mem_of_getElem? (i := 1114) (by decide +kernel), List.mem_of_getElem? (i := 1115) (by decide +kernel)⟩
theorem lw_p68 : lw_okq (⟨"RailsOfIceModel", "othersThrough", "(I)I"⟩, 41) := ⟨⟨by decide +kernel, by decide +kernel⟩, List.mem_of_getElem? (i := 681) (by decide +kernel), List.mem_of_getElem? (i := 1147) (by decide +kernel), List.mem_of_getElem? (i := 1148) (by decide +kernel)⟩
theorem lw_p69 : lw_okq (⟨"RailsOfIceModel", "allFrost", "()I"⟩, 41) := ⟨⟨by decide +kernel, by decide +kernel⟩, List.mem_of_getElem? (i := 681) (by decide +kernel), List.mem_of_getElem? (i := 1155) (by decide +kernel), List.mem_of_getElem? (i := 1156) (by decide +kernel)⟩
theorem lw_p70 : lw_okq (⟨"RailsOfIceModel", "drawBelow", "(I)I"⟩, 41) := ⟨⟨by decide +kernel, by decide +kernel⟩, List.mem_of_getElem? (i := 681) (by decide +kernel), List.mem_of_getElem? (i := 1187) (by decide +kernel), List.mem_of_getElem? (i := 1188) (by decide +kernel)⟩
def lw_privs_5 : List (MethodName × Nat) := [(⟨"RailsOfIceModel", "layOrder", "(II)V"⟩, 41), (⟨"RailsOfIceModel", "besideMean", "(I)I"⟩, 41), (⟨"RailsOfIceModel", "haltNear", "(I)I"⟩, 41), (⟨"RailsOfIceModel", "leastOfFew", "(III)I"⟩, 41), (⟨"RailsOfIceModel", "othersThrough", "(I)I"⟩, 41), (⟨"RailsOfIceModel", "allFrost", "()I"⟩, 41), (⟨"RailsOfIceModel", "drawBelow", "(I)I"⟩, 41)]
theorem lw_r5 : ∀ q ∈ lw_privs_5, lw_okq q := List.forall_mem_cons.mpr ⟨lw_p64, List.forall_mem_cons.mpr ⟨lw_p65, List.forall_mem_cons.mpr ⟨lw_p66, List.forall_mem_cons.mpr ⟨lw_p67, List.forall_mem_cons.mpr ⟨lw_p68, List.forall_mem_cons.mpr ⟨lw_p69, List.forall_mem_cons.mpr ⟨lw_p70, fun _ h => absurd h List.not_mem_nil⟩⟩⟩⟩⟩⟩⟩
def lw_privs : List (MethodName × Nat) := lw_privs_1 ++ (lw_privs_2 ++ (lw_privs_3 ++ (lw_privs_4 ++ (lw_privs_5))))
def lw_tbl : List Cond := k2_sels lw_privs ++ tables_1
theorem lw_privs_ok : ∀ q ∈ lw_privs, lw_okq q := by
  show ∀ q ∈ lw_privs_1 ++ (lw_privs_2 ++ (lw_privs_3 ++ (lw_privs_4 ++ (lw_privs_5)))), lw_okq q
  exact List.forall_mem_append.mpr ⟨lw_r1, List.forall_mem_append.mpr ⟨lw_r2, List.forall_mem_append.mpr ⟨lw_r3, List.forall_mem_append.mpr ⟨lw_r4, lw_r5⟩⟩⟩⟩

def RX0 : String := "RailsOfIce$Kinds"
def TX0 : u_T := fun k => match k with
  | _ => ("", "", "", false)
def tyX0 : Nat → FieldType := fun k => match k with
  | _ => .int
abbrev wsX00 : List Cond := u_ws RX0 TX0 0
theorem nmX0 : ∀ a, a < 0 → ∀ b, b < 0 → a ≠ b → (TX0 a).2.1 ≠ (TX0 b).2.1 := by decide +kernel
theorem tyX0_ok : ∀ k, k < 0 → parseFieldDescriptor (TX0 k).2.2.1 = some (tyX0 k) := by decide +kernel
abbrev cX0_freezes : ByteArray := prog_2_method_2_code
def yX0_freezes : MethodName := ⟨RX0, "freezes", "(III)I"⟩
abbrev cX0_melts : ByteArray := prog_2_method_3_code
def yX0_melts : MethodName := ⟨RX0, "melts", "(III)I"⟩
abbrev cX0_wants : ByteArray := prog_2_method_4_code
def yX0_wants : MethodName := ⟨RX0, "wants", "(III)I"⟩
def RX1 : String := "RailsOfIce$Letters"
def TX1 : u_T := fun k => match k with
  | 0 => ("RailsOfIce$Letters", "text", "[I", true)
  | _ => ("RailsOfIce$Letters", "length", "I", false)
def tyX1 : Nat → FieldType := fun k => match k with
  | 0 => .array .int
  | _ => .int
abbrev wsX10 : List Cond := u_ws RX1 TX1 2
theorem nmX1 : ∀ a, a < 2 → ∀ b, b < 2 → a ≠ b → (TX1 a).2.1 ≠ (TX1 b).2.1 := by decide +kernel
theorem tyX1_ok : ∀ k, k < 2 → parseFieldDescriptor (TX1 k).2.2.1 = some (tyX1 k) := by decide +kernel
abbrev cX1_init : ByteArray := prog_3_method_1_code
def yX1_init : MethodName := ⟨RX1, "<init>", "()V"⟩
abbrev cX1_add : ByteArray := prog_3_method_2_code
def yX1_add : MethodName := ⟨RX1, "add", "(I)V"⟩
abbrev cX1_letterAt : ByteArray := prog_3_method_3_code
def yX1_letterAt : MethodName := ⟨RX1, "letterAt", "(I)I"⟩
abbrev cX1_brokenAt : ByteArray := prog_3_method_4_code
def yX1_brokenAt : MethodName := ⟨RX1, "brokenAt", "()I"⟩
abbrev cX1_brokenStatementAt : ByteArray := prog_3_method_5_code
def yX1_brokenStatementAt : MethodName := ⟨RX1, "brokenStatementAt", "(I)I"⟩
abbrev cX1_lengthAt : ByteArray := prog_3_method_6_code
def yX1_lengthAt : MethodName := ⟨RX1, "lengthAt", "(I)I"⟩
abbrev cX1_digitsBehind : ByteArray := prog_3_method_7_code
def yX1_digitsBehind : MethodName := ⟨RX1, "digitsBehind", "(I)I"⟩
abbrev cX1_isDigit : ByteArray := prog_3_method_8_code
def yX1_isDigit : MethodName := ⟨RX1, "isDigit", "(I)Z"⟩
abbrev cX1_number : ByteArray := prog_3_method_9_code
def yX1_number : MethodName := ⟨RX1, "number", "(II)I"⟩
def RX2 : String := "RailsOfIce$Line"
def TX2 : u_T := fun k => match k with
  | 0 => ("RailsOfIce$Line", "many", "I", false)
  | 1 => ("RailsOfIce$Line", "hour", "I", false)
  | 2 => ("RailsOfIce$Line", "cold", "I", false)
  | 3 => ("RailsOfIce$Line", "noon", "I", false)
  | 4 => ("RailsOfIce$Line", "trains", "I", false)
  | 5 => ("RailsOfIce$Line", "kind", "[I", true)
  | 6 => ("RailsOfIce$Line", "figure", "[I", true)
  | 7 => ("RailsOfIce$Line", "frost", "[I", true)
  | 8 => ("RailsOfIce$Line", "weight", "[I", true)
  | 9 => ("RailsOfIce$Line", "warmth", "[I", true)
  | 10 => ("RailsOfIce$Line", "pace", "[I", true)
  | 11 => ("RailsOfIce$Line", "at", "[I", true)
  | 12 => ("RailsOfIce$Line", "waits", "[I", true)
  | 13 => ("RailsOfIce$Line", "how", "[I", true)
  | 14 => ("RailsOfIce$Line", "passed", "I", false)
  | 15 => ("RailsOfIce$Line", "ended", "[I", true)
  | 16 => ("RailsOfIce$Line", "freezing", "[I", true)
  | _ => ("RailsOfIce$Line", "melting", "[I", true)
def tyX2 : Nat → FieldType := fun k => match k with
  | 0 => .int
  | 1 => .int
  | 2 => .int
  | 3 => .int
  | 4 => .int
  | 5 => .array .int
  | 6 => .array .int
  | 7 => .array .int
  | 8 => .array .int
  | 9 => .array .int
  | 10 => .array .int
  | 11 => .array .int
  | 12 => .array .int
  | 13 => .array .int
  | 14 => .int
  | 15 => .array .int
  | 16 => .array .int
  | _ => .array .int
abbrev wsX20 : List Cond := u_ws RX2 TX2 18
theorem nmX2 : ∀ a, a < 18 → ∀ b, b < 18 → a ≠ b → (TX2 a).2.1 ≠ (TX2 b).2.1 := by decide +kernel
theorem tyX2_ok : ∀ k, k < 18 → parseFieldDescriptor (TX2 k).2.2.1 = some (tyX2 k) := by decide +kernel
abbrev cX2_init : ByteArray := prog_4_method_1_code
def yX2_init : MethodName := ⟨RX2, "<init>", "()V"⟩
abbrev cX2_become : ByteArray := prog_4_method_2_code
def yX2_become : MethodName := ⟨RX2, "become", "(LRailsOfIce$Line;)V"⟩
abbrev cX2_takeTrain : ByteArray := prog_4_method_3_code
def yX2_takeTrain : MethodName := ⟨RX2, "takeTrain", "(ILRailsOfIce$Line;I)V"⟩
abbrev cX2_becomeMany : ByteArray := prog_4_method_4_code
def yX2_becomeMany : MethodName := ⟨RX2, "becomeMany", "(I)Z"⟩
abbrev cX2_becomeYard : ByteArray := prog_4_method_5_code
def yX2_becomeYard : MethodName := ⟨RX2, "becomeYard", "(IIII)Z"⟩
abbrev cX2_addTrain : ByteArray := prog_4_method_6_code
def yX2_addTrain : MethodName := ⟨RX2, "addTrain", "(III)Z"⟩
abbrev cX2_letWait : ByteArray := prog_4_method_7_code
def yX2_letWait : MethodName := ⟨RX2, "letWait", "(II)Z"⟩
abbrev cX2_go : ByteArray := prog_4_method_8_code
def yX2_go : MethodName := ⟨RX2, "go", "(I)V"⟩
abbrev cX2_goWhileOnItsWay : ByteArray := prog_4_method_9_code
def yX2_goWhileOnItsWay : MethodName := ⟨RX2, "goWhileOnItsWay", "(II)V"⟩
abbrev cX2_goWhileAnyGoes : ByteArray := prog_4_method_10_code
def yX2_goWhileAnyGoes : MethodName := ⟨RX2, "goWhileAnyGoes", "(I)V"⟩
abbrev cX2_feelWeather : ByteArray := prog_4_method_11_code
def yX2_feelWeather : MethodName := ⟨RX2, "feelWeather", "()V"⟩
abbrev cX2_passHour : ByteArray := prog_4_method_12_code
def yX2_passHour : MethodName := ⟨RX2, "passHour", "()V"⟩
abbrev cX2_freezeAll : ByteArray := prog_4_method_13_code
def yX2_freezeAll : MethodName := ⟨RX2, "freezeAll", "()V"⟩
abbrev cX2_meltAll : ByteArray := prog_4_method_14_code
def yX2_meltAll : MethodName := ⟨RX2, "meltAll", "()V"⟩
abbrev cX2_moveTrain : ByteArray := prog_4_method_15_code
def yX2_moveTrain : MethodName := ⟨RX2, "moveTrain", "(I)V"⟩
abbrev cX2_isTaken : ByteArray := prog_4_method_16_code
def yX2_isTaken : MethodName := ⟨RX2, "isTaken", "(I)Z"⟩
abbrev cX2_sinkTrains : ByteArray := prog_4_method_17_code
def yX2_sinkTrains : MethodName := ⟨RX2, "sinkTrains", "()V"⟩
abbrev cX2_pour : ByteArray := prog_4_method_18_code
def yX2_pour : MethodName := ⟨RX2, "pour", "(I)V"⟩
abbrev cX2_bears : ByteArray := prog_4_method_19_code
def yX2_bears : MethodName := ⟨RX2, "bears", "(II)Z"⟩
abbrev cX2_allBear : ByteArray := prog_4_method_20_code
def yX2_allBear : MethodName := ⟨RX2, "allBear", "(I)Z"⟩
abbrev cX2_noneBears : ByteArray := prog_4_method_21_code
def yX2_noneBears : MethodName := ⟨RX2, "noneBears", "(I)Z"⟩
abbrev cX2_isAhead : ByteArray := prog_4_method_22_code
def yX2_isAhead : MethodName := ⟨RX2, "isAhead", "(I)Z"⟩
abbrev cX2_howMany : ByteArray := prog_4_method_23_code
def yX2_howMany : MethodName := ⟨RX2, "howMany", "(I)I"⟩
abbrev cX2_allFrost : ByteArray := prog_4_method_24_code
def yX2_allFrost : MethodName := ⟨RX2, "allFrost", "()I"⟩
abbrev cX2_weakest : ByteArray := prog_4_method_25_code
def yX2_weakest : MethodName := ⟨RX2, "weakest", "()I"⟩
abbrev cX2_greatestFrost : ByteArray := prog_4_method_26_code
def yX2_greatestFrost : MethodName := ⟨RX2, "greatestFrost", "()I"⟩
abbrev cX2_besideNeighbours : ByteArray := prog_4_method_27_code
def yX2_besideNeighbours : MethodName := ⟨RX2, "besideNeighbours", "(I)I"⟩
abbrev cX2_nearestHalt : ByteArray := prog_4_method_28_code
def yX2_nearestHalt : MethodName := ⟨RX2, "nearestHalt", "(I)I"⟩
def RX3 : String := "RailsOfIce$Past"
def TX3 : u_T := fun k => match k with
  | 0 => ("RailsOfIce$Past", "lines", "[LRailsOfIce$Line;", true)
  | _ => ("RailsOfIce$Past", "length", "I", false)
def tyX3 : Nat → FieldType := fun k => match k with
  | 0 => .array (.object "RailsOfIce$Line")
  | _ => .int
abbrev wsX30 : List Cond := u_ws RX3 TX3 2
theorem nmX3 : ∀ a, a < 2 → ∀ b, b < 2 → a ≠ b → (TX3 a).2.1 ≠ (TX3 b).2.1 := by decide +kernel
theorem tyX3_ok : ∀ k, k < 2 → parseFieldDescriptor (TX3 k).2.2.1 = some (tyX3 k) := by decide +kernel
abbrev cX3_init : ByteArray := prog_5_method_1_code
def yX3_init : MethodName := ⟨RX3, "<init>", "()V"⟩
abbrev cX3_keep : ByteArray := prog_5_method_2_code
def yX3_keep : MethodName := ⟨RX3, "keep", "(LRailsOfIce$Line;)V"⟩
abbrev cX3_dropOldest : ByteArray := prog_5_method_3_code
def yX3_dropOldest : MethodName := ⟨RX3, "dropOldest", "()V"⟩
abbrev cX3_takeBack : ByteArray := prog_5_method_4_code
def yX3_takeBack : MethodName := ⟨RX3, "takeBack", "(LRailsOfIce$Line;)V"⟩
abbrev cX3_forget : ByteArray := prog_5_method_5_code
def yX3_forget : MethodName := ⟨RX3, "forget", "()V"⟩
def RX4 : String := "RailsOfIce"
def TX4 : u_T := fun k => match k with
  | 0 => ("RailsOfIce", "now", "LRailsOfIce$Line;", true)
  | 1 => ("RailsOfIce", "mind", "LRailsOfIce$Line;", true)
  | 2 => ("RailsOfIce", "image", "LRailsOfIce$Line;", true)
  | 3 => ("RailsOfIce", "imageTaken", "Z", false)
  | 4 => ("RailsOfIce", "past", "LRailsOfIce$Past;", true)
  | 5 => ("RailsOfIce", "letters", "LRailsOfIce$Letters;", true)
  | 6 => ("RailsOfIce", "row", "[I", true)
  | 7 => ("RailsOfIce", "rowLength", "I", false)
  | 8 => ("RailsOfIce", "refusals", "[I", true)
  | 9 => ("RailsOfIce", "queue", "[I", true)
  | _ => ("RailsOfIce", "places", "[I", true)
def tyX4 : Nat → FieldType := fun k => match k with
  | 0 => .object "RailsOfIce$Line"
  | 1 => .object "RailsOfIce$Line"
  | 2 => .object "RailsOfIce$Line"
  | 3 => .boolean
  | 4 => .object "RailsOfIce$Past"
  | 5 => .object "RailsOfIce$Letters"
  | 6 => .array .int
  | 7 => .int
  | 8 => .array .int
  | 9 => .array .int
  | _ => .array .int
abbrev wsX40 : List Cond := u_ws RX4 TX4 11
theorem nmX4 : ∀ a, a < 11 → ∀ b, b < 11 → a ≠ b → (TX4 a).2.1 ≠ (TX4 b).2.1 := by decide +kernel
theorem tyX4_ok : ∀ k, k < 11 → parseFieldDescriptor (TX4 k).2.2.1 = some (tyX4 k) := by decide +kernel
abbrev cX4_init : ByteArray := prog_1_method_1_code
def yX4_init : MethodName := ⟨RX4, "<init>", "()V"⟩
abbrev cX4_feed : ByteArray := prog_1_method_2_code
def yX4_feed : MethodName := ⟨RX4, "feed", "(I)I"⟩
abbrev cX4_line : ByteArray := prog_1_method_3_code
def yX4_line : MethodName := ⟨RX4, "line", "()I"⟩
abbrev cX4_tellLine : ByteArray := prog_1_method_4_code
def yX4_tellLine : MethodName := ⟨RX4, "tellLine", "()I"⟩
abbrev cX4_tellStatement : ByteArray := prog_1_method_5_code
def yX4_tellStatement : MethodName := ⟨RX4, "tellStatement", "(I)Z"⟩
abbrev cX4_yard : ByteArray := prog_1_method_6_code
def yX4_yard : MethodName := ⟨RX4, "yard", "(II)I"⟩
abbrev cX4_turn : ByteArray := prog_1_method_7_code
def yX4_turn : MethodName := ⟨RX4, "turn", "(III)I"⟩
abbrev cX4_frost : ByteArray := prog_1_method_8_code
def yX4_frost : MethodName := ⟨RX4, "frost", "(II)I"⟩
abbrev cX4_weather : ByteArray := prog_1_method_9_code
def yX4_weather : MethodName := ⟨RX4, "weather", "(II)I"⟩
abbrev cX4_many : ByteArray := prog_1_method_10_code
def yX4_many : MethodName := ⟨RX4, "many", "(I)I"⟩
abbrev cX4_train : ByteArray := prog_1_method_11_code
def yX4_train : MethodName := ⟨RX4, "train", "(III)I"⟩
abbrev cX4_told : ByteArray := prog_1_method_12_code
def yX4_told : MethodName := ⟨RX4, "told", "(II)I"⟩
abbrev cX4_waits : ByteArray := prog_1_method_13_code
def yX4_waits : MethodName := ⟨RX4, "waits", "(II)I"⟩
abbrev cX4_hours : ByteArray := prog_1_method_14_code
def yX4_hours : MethodName := ⟨RX4, "hours", "(I)I"⟩
abbrev cX4_back : ByteArray := prog_1_method_15_code
def yX4_back : MethodName := ⟨RX4, "back", "()I"⟩
abbrev cX4_frostIn : ByteArray := prog_1_method_16_code
def yX4_frostIn : MethodName := ⟨RX4, "frostIn", "(II)I"⟩
abbrev cX4_trainIn : ByteArray := prog_1_method_17_code
def yX4_trainIn : MethodName := ⟨RX4, "trainIn", "(III)I"⟩
abbrev cX4_through : ByteArray := prog_1_method_18_code
def yX4_through : MethodName := ⟨RX4, "through", "(II)I"⟩
abbrev cX4_thin : ByteArray := prog_1_method_19_code
def yX4_thin : MethodName := ⟨RX4, "thin", "(II)I"⟩
abbrev cX4_lasts : ByteArray := prog_1_method_20_code
def yX4_lasts : MethodName := ⟨RX4, "lasts", "(II)I"⟩
abbrev cX4_lowest : ByteArray := prog_1_method_21_code
def yX4_lowest : MethodName := ⟨RX4, "lowest", "(II)I"⟩
abbrev cX4_last : ByteArray := prog_1_method_22_code
def yX4_last : MethodName := ⟨RX4, "last", "(I)I"⟩
abbrev cX4_bestWait : ByteArray := prog_1_method_23_code
def yX4_bestWait : MethodName := ⟨RX4, "bestWait", "(II)I"⟩
abbrev cX4_heaviest : ByteArray := prog_1_method_24_code
def yX4_heaviest : MethodName := ⟨RX4, "heaviest", "(II)I"⟩
abbrev cX4_greatestWeight : ByteArray := prog_1_method_25_code
def yX4_greatestWeight : MethodName := ⟨RX4, "greatestWeight", "(I)I"⟩
abbrev cX4_greatestWarmth : ByteArray := prog_1_method_26_code
def yX4_greatestWarmth : MethodName := ⟨RX4, "greatestWarmth", "(I)I"⟩
abbrev cX4_soonestPace : ByteArray := prog_1_method_27_code
def yX4_soonestPace : MethodName := ⟨RX4, "soonestPace", "(I)I"⟩
abbrev cX4_pourFirst : ByteArray := prog_1_method_28_code
def yX4_pourFirst : MethodName := ⟨RX4, "pourFirst", "()I"⟩
abbrev cX4_pourFewest : ByteArray := prog_1_method_29_code
def yX4_pourFewest : MethodName := ⟨RX4, "pourFewest", "(I)I"⟩
abbrev cX4_pouredGetsThrough : ByteArray := prog_1_method_30_code
def yX4_pouredGetsThrough : MethodName := ⟨RX4, "pouredGetsThrough", "(II)Z"⟩
abbrev cX4_strongest : ByteArray := prog_1_method_31_code
def yX4_strongest : MethodName := ⟨RX4, "strongest", "(I)I"⟩
abbrev cX4_order : ByteArray := prog_1_method_32_code
def yX4_order : MethodName := ⟨RX4, "order", "(I)I"⟩
abbrev cX4_lineUp : ByteArray := prog_1_method_33_code
def yX4_lineUp : MethodName := ⟨RX4, "lineUp", "()I"⟩
abbrev cX4_takeQueue : ByteArray := prog_1_method_34_code
def yX4_takeQueue : MethodName := ⟨RX4, "takeQueue", "(I)V"⟩
abbrev cX4_queueDigits : ByteArray := prog_1_method_35_code
def yX4_queueDigits : MethodName := ⟨RX4, "queueDigits", "(I)I"⟩
abbrev cX4_nextQueue : ByteArray := prog_1_method_36_code
def yX4_nextQueue : MethodName := ⟨RX4, "nextQueue", "(I)Z"⟩
abbrev cX4_swapQueue : ByteArray := prog_1_method_37_code
def yX4_swapQueue : MethodName := ⟨RX4, "swapQueue", "(II)V"⟩
abbrev cX4_timetable : ByteArray := prog_1_method_38_code
def yX4_timetable : MethodName := ⟨RX4, "timetable", "(II)I"⟩
abbrev cX4_laterOf : ByteArray := prog_1_method_39_code
def yX4_laterOf : MethodName := ⟨RX4, "laterOf", "(IIII)I"⟩
abbrev cX4_said : ByteArray := prog_1_method_40_code
def yX4_said : MethodName := ⟨RX4, "said", "()I"⟩
abbrev cX4_canBeSaid : ByteArray := prog_1_method_41_code
def yX4_canBeSaid : MethodName := ⟨RX4, "canBeSaid", "(I)Z"⟩
abbrev cX4_lies : ByteArray := prog_1_method_42_code
def yX4_lies : MethodName := ⟨RX4, "lies", "()I"⟩
abbrev cX4_tells : ByteArray := prog_1_method_43_code
def yX4_tells : MethodName := ⟨RX4, "tells", "()I"⟩
abbrev cX4_near : ByteArray := prog_1_method_44_code
def yX4_near : MethodName := ⟨RX4, "near", "(I)I"⟩
abbrev cX4_rescue : ByteArray := prog_1_method_45_code
def yX4_rescue : MethodName := ⟨RX4, "rescue", "(I)I"⟩
abbrev cX4_march : ByteArray := prog_1_method_46_code
def yX4_march : MethodName := ⟨RX4, "march", "(I)I"⟩
abbrev cX4_marchYards : ByteArray := prog_1_method_47_code
def yX4_marchYards : MethodName := ⟨RX4, "marchYards", "()I"⟩
abbrev cX4_surePouring : ByteArray := prog_1_method_48_code
def yX4_surePouring : MethodName := ⟨RX4, "surePouring", "(I)I"⟩
abbrev cX4_sureOfMarch : ByteArray := prog_1_method_49_code
def yX4_sureOfMarch : MethodName := ⟨RX4, "sureOfMarch", "()I"⟩
abbrev cX4_leastAfter : ByteArray := prog_1_method_50_code
def yX4_leastAfter : MethodName := ⟨RX4, "leastAfter", "(II)I"⟩
abbrev cX4_noons : ByteArray := prog_1_method_51_code
def yX4_noons : MethodName := ⟨RX4, "noons", "(II)J"⟩
abbrev cX4_getsThroughAtNoon : ByteArray := prog_1_method_52_code
def yX4_getsThroughAtNoon : MethodName := ⟨RX4, "getsThroughAtNoon", "(II)Z"⟩
abbrev cX4_commonDivisor : ByteArray := prog_1_method_53_code
def yX4_commonDivisor : MethodName := ⟨RX4, "commonDivisor", "(II)I"⟩
abbrev cX4_thaw : ByteArray := prog_1_method_54_code
def yX4_thaw : MethodName := ⟨RX4, "thaw", "()I"⟩
abbrev cX4_noon : ByteArray := prog_1_method_55_code
def yX4_noon : MethodName := ⟨RX4, "noon", "(I)I"⟩
abbrev cX4_needed : ByteArray := prog_1_method_56_code
def yX4_needed : MethodName := ⟨RX4, "needed", "(II)I"⟩
abbrev cX4_key : ByteArray := prog_1_method_57_code
def yX4_key : MethodName := ⟨RX4, "key", "()I"⟩
abbrev cX4_blocker : ByteArray := prog_1_method_58_code
def yX4_blocker : MethodName := ⟨RX4, "blocker", "()I"⟩
abbrev cX4_othersThroughNow : ByteArray := prog_1_method_59_code
def yX4_othersThroughNow : MethodName := ⟨RX4, "othersThroughNow", "(I)I"⟩
abbrev cX4_othersThroughWithout : ByteArray := prog_1_method_60_code
def yX4_othersThroughWithout : MethodName := ⟨RX4, "othersThroughWithout", "(I)I"⟩
abbrev cX4_mean : ByteArray := prog_1_method_61_code
def yX4_mean : MethodName := ⟨RX4, "mean", "(II)I"⟩
abbrev cX4_runs : ByteArray := prog_1_method_62_code
def yX4_runs : MethodName := ⟨RX4, "runs", "(II)I"⟩
abbrev cX4_day : ByteArray := prog_1_method_63_code
def yX4_day : MethodName := ⟨RX4, "day", "()I"⟩
abbrev cX4_stands : ByteArray := prog_1_method_64_code
def yX4_stands : MethodName := ⟨RX4, "stands", "(I)I"⟩
abbrev cX4_row : ByteArray := prog_1_method_65_code
def yX4_row : MethodName := ⟨RX4, "row", "(I)I"⟩
abbrev cX4_judge : ByteArray := prog_1_method_66_code
def yX4_judge : MethodName := ⟨RX4, "judge", "(I)I"⟩
abbrev cX4_clear : ByteArray := prog_1_method_67_code
def yX4_clear : MethodName := ⟨RX4, "clear", "()I"⟩
abbrev cX4_lots : ByteArray := prog_1_method_68_code
def yX4_lots : MethodName := ⟨RX4, "lots", "(III)I"⟩
abbrev cX4_nextSeed : ByteArray := prog_1_method_69_code
def yX4_nextSeed : MethodName := ⟨RX4, "nextSeed", "(I)I"⟩
abbrev cX4_drawn : ByteArray := prog_1_method_70_code
def yX4_drawn : MethodName := ⟨RX4, "drawn", "(II)I"⟩
abbrev cX4_image : ByteArray := prog_1_method_71_code
def yX4_image : MethodName := ⟨RX4, "image", "()I"⟩
abbrev cX4_restore : ByteArray := prog_1_method_72_code
def yX4_restore : MethodName := ⟨RX4, "restore", "()I"⟩
abbrev cX4_count : ByteArray := prog_1_method_73_code
def yX4_count : MethodName := ⟨RX4, "count", "(I)I"⟩
abbrev cX4_refuse : ByteArray := prog_1_method_74_code
def yX4_refuse : MethodName := ⟨RX4, "refuse", "(I)I"⟩
abbrev cX4_outside : ByteArray := prog_1_method_75_code
def yX4_outside : MethodName := ⟨RX4, "outside", "(III)I"⟩
abbrev cX4_neither : ByteArray := prog_1_method_76_code
def yX4_neither : MethodName := ⟨RX4, "neither", "(I)Z"⟩
abbrev cX4_noYard : ByteArray := prog_1_method_77_code
def yX4_noYard : MethodName := ⟨RX4, "noYard", "(I)Z"⟩
abbrev cX4_noTrain : ByteArray := prog_1_method_78_code
def yX4_noTrain : MethodName := ⟨RX4, "noTrain", "(I)Z"⟩
abbrev cX4_notAhead : ByteArray := prog_1_method_79_code
def yX4_notAhead : MethodName := ⟨RX4, "notAhead", "(I)I"⟩
abbrev cX4_goInMind : ByteArray := prog_1_method_80_code
def yX4_goInMind : MethodName := ⟨RX4, "goInMind", "(I)V"⟩
abbrev cX4_getsThrough : ByteArray := prog_1_method_81_code
def yX4_getsThrough : MethodName := ⟨RX4, "getsThrough", "(I)Z"⟩
abbrev cX4_throughInMind : ByteArray := prog_1_method_82_code
def yX4_throughInMind : MethodName := ⟨RX4, "throughInMind", "()I"⟩
def RX5 : String := "RailsOfIceModel"
def TX5 : u_T := fun k => match k with
  | 0 => ("RailsOfIceModel", "yards", "I", false)
  | 1 => ("RailsOfIceModel", "kinds", "[I", true)
  | 2 => ("RailsOfIceModel", "figures", "[I", true)
  | 3 => ("RailsOfIceModel", "frosts", "[I", true)
  | 4 => ("RailsOfIceModel", "hour", "I", false)
  | 5 => ("RailsOfIceModel", "cold", "I", false)
  | 6 => ("RailsOfIceModel", "noon0", "I", false)
  | 7 => ("RailsOfIceModel", "trains", "I", false)
  | 8 => ("RailsOfIceModel", "weights", "[I", true)
  | 9 => ("RailsOfIceModel", "warmths", "[I", true)
  | 10 => ("RailsOfIceModel", "paces", "[I", true)
  | 11 => ("RailsOfIceModel", "ats", "[I", true)
  | 12 => ("RailsOfIceModel", "waits0", "[I", true)
  | 13 => ("RailsOfIceModel", "states", "[I", true)
  | 14 => ("RailsOfIceModel", "thrown", "I", false)
  | 15 => ("RailsOfIceModel", "refusals", "[I", true)
  | 16 => ("RailsOfIceModel", "stood", "[I", true)
  | 17 => ("RailsOfIceModel", "endedIn", "[I", true)
  | 18 => ("RailsOfIceModel", "letters", "[I", true)
  | 19 => ("RailsOfIceModel", "letterMany", "I", false)
  | 20 => ("RailsOfIceModel", "at", "I", false)
  | 21 => ("RailsOfIceModel", "isBad", "Z", false)
  | 22 => ("RailsOfIceModel", "statements", "I", false)
  | 23 => ("RailsOfIceModel", "placeIn", "[I", true)
  | 24 => ("RailsOfIceModel", "letterOf", "[I", true)
  | 25 => ("RailsOfIceModel", "told0", "[I", true)
  | 26 => ("RailsOfIceModel", "kept", "[I", true)
  | 27 => ("RailsOfIceModel", "imaged", "[I", true)
  | 28 => ("RailsOfIceModel", "hasImage", "Z", false)
  | 29 => ("RailsOfIceModel", "place0", "I", false)
  | 30 => ("RailsOfIceModel", "isTaking", "Z", false)
  | 31 => ("RailsOfIceModel", "keptIn", "[I", false)
  | 32 => ("RailsOfIceModel", "turns", "[I", true)
  | 33 => ("RailsOfIceModel", "turnOf", "[I", true)
  | 34 => ("RailsOfIceModel", "turned", "I", false)
  | 35 => ("RailsOfIceModel", "aheadOf", "[I", true)
  | 36 => ("RailsOfIceModel", "was0", "[I", true)
  | 37 => ("RailsOfIceModel", "order0", "[I", true)
  | 38 => ("RailsOfIceModel", "row", "[I", true)
  | 39 => ("RailsOfIceModel", "rowMany", "I", false)
  | _ => ("RailsOfIceModel", "seed", "I", false)
def tyX5 : Nat → FieldType := fun k => match k with
  | 0 => .int
  | 1 => .array .int
  | 2 => .array .int
  | 3 => .array .int
  | 4 => .int
  | 5 => .int
  | 6 => .int
  | 7 => .int
  | 8 => .array .int
  | 9 => .array .int
  | 10 => .array .int
  | 11 => .array .int
  | 12 => .array .int
  | 13 => .array .int
  | 14 => .int
  | 15 => .array .int
  | 16 => .array .int
  | 17 => .array .int
  | 18 => .array .int
  | 19 => .int
  | 20 => .int
  | 21 => .boolean
  | 22 => .int
  | 23 => .array .int
  | 24 => .array .int
  | 25 => .array .int
  | 26 => .array .int
  | 27 => .array .int
  | 28 => .boolean
  | 29 => .int
  | 30 => .boolean
  | 31 => .array .int
  | 32 => .array .int
  | 33 => .array .int
  | 34 => .int
  | 35 => .array .int
  | 36 => .array .int
  | 37 => .array .int
  | 38 => .array .int
  | 39 => .int
  | _ => .int
abbrev wsX50 : List Cond := u_ws RX5 TX5 41
theorem nmX5 : ∀ a, a < 41 → ∀ b, b < 41 → a ≠ b → (TX5 a).2.1 ≠ (TX5 b).2.1 := by decide +kernel
theorem tyX5_ok : ∀ k, k < 41 → parseFieldDescriptor (TX5 k).2.2.1 = some (tyX5 k) := by decide +kernel
abbrev cX5_init : ByteArray := prog_7_method_1_code
def yX5_init : MethodName := ⟨RX5, "<init>", "()V"⟩
abbrev cX5_in : ByteArray := prog_7_method_3_code
def yX5_in : MethodName := ⟨RX5, "in", "(JJJ)Z"⟩
abbrev cX5_refuse : ByteArray := prog_7_method_4_code
def yX5_refuse : MethodName := ⟨RX5, "refuse", "(I)I"⟩
abbrev cX5_isYard : ByteArray := prog_7_method_5_code
def yX5_isYard : MethodName := ⟨RX5, "isYard", "(I)Z"⟩
abbrev cX5_isTrain : ByteArray := prog_7_method_6_code
def yX5_isTrain : MethodName := ⟨RX5, "isTrain", "(I)Z"⟩
abbrev cX5_wrongNumber : ByteArray := prog_7_method_7_code
def yX5_wrongNumber : MethodName := ⟨RX5, "wrongNumber", "(III)I"⟩
abbrev cX5_wrongBit : ByteArray := prog_7_method_8_code
def yX5_wrongBit : MethodName := ⟨RX5, "wrongBit", "(III)I"⟩
abbrev cX5_atLeast : ByteArray := prog_7_method_9_code
def yX5_atLeast : MethodName := ⟨RX5, "atLeast", "(I)I"⟩
abbrev cX5_held : ByteArray := prog_7_method_10_code
def yX5_held : MethodName := ⟨RX5, "held", "(I)I"⟩
abbrev cX5_hasBit : ByteArray := prog_7_method_11_code
def yX5_hasBit : MethodName := ⟨RX5, "hasBit", "(II)Z"⟩
abbrev cX5_onesOf : ByteArray := prog_7_method_12_code
def yX5_onesOf : MethodName := ⟨RX5, "onesOf", "(I)I"⟩
abbrev cX5_freezes : ByteArray := prog_7_method_13_code
def yX5_freezes : MethodName := ⟨RX5, "freezes", "(I)I"⟩
abbrev cX5_melts : ByteArray := prog_7_method_14_code
def yX5_melts : MethodName := ⟨RX5, "melts", "(I)I"⟩
abbrev cX5_wants : ByteArray := prog_7_method_15_code
def yX5_wants : MethodName := ⟨RX5, "wants", "(II)I"⟩
abbrev cX5_bears : ByteArray := prog_7_method_16_code
def yX5_bears : MethodName := ⟨RX5, "bears", "(II)Z"⟩
abbrev cX5_isFree : ByteArray := prog_7_method_17_code
def yX5_isFree : MethodName := ⟨RX5, "isFree", "(II)Z"⟩
abbrev cX5_trainOn : ByteArray := prog_7_method_18_code
def yX5_trainOn : MethodName := ⟨RX5, "trainOn", "(I)V"⟩
abbrev cX5_hourOn : ByteArray := prog_7_method_19_code
def yX5_hourOn : MethodName := ⟨RX5, "hourOn", "()V"⟩
abbrev cX5_goHours : ByteArray := prog_7_method_20_code
def yX5_goHours : MethodName := ⟨RX5, "goHours", "(I)V"⟩
abbrev cX5_howMany : ByteArray := prog_7_method_21_code
def yX5_howMany : MethodName := ⟨RX5, "howMany", "(I)I"⟩
abbrev cX5_feed : ByteArray := prog_7_method_22_code
def yX5_feed : MethodName := ⟨RX5, "feed", "(I)I"⟩
abbrev cX5_here : ByteArray := prog_7_method_23_code
def yX5_here : MethodName := ⟨RX5, "here", "()I"⟩
abbrev cX5_readDigits : ByteArray := prog_7_method_24_code
def yX5_readDigits : MethodName := ⟨RX5, "readDigits", "(I)I"⟩
abbrev cX5_isLetter : ByteArray := prog_7_method_25_code
def yX5_isLetter : MethodName := ⟨RX5, "isLetter", "(I)Z"⟩
abbrev cX5_readNumbers : ByteArray := prog_7_method_26_code
def yX5_readNumbers : MethodName := ⟨RX5, "readNumbers", "(II)V"⟩
abbrev cX5_readStatement : ByteArray := prog_7_method_27_code
def yX5_readStatement : MethodName := ⟨RX5, "readStatement", "()V"⟩
abbrev cX5_trainComes : ByteArray := prog_7_method_28_code
def yX5_trainComes : MethodName := ⟨RX5, "trainComes", "(III)V"⟩
abbrev cX5_isBeyond : ByteArray := prog_7_method_29_code
def yX5_isBeyond : MethodName := ⟨RX5, "isBeyond", "(I)Z"⟩
abbrev cX5_comesTold : ByteArray := prog_7_method_30_code
def yX5_comesTold : MethodName := ⟨RX5, "comesTold", "(I)Z"⟩
abbrev cX5_line : ByteArray := prog_7_method_31_code
def yX5_line : MethodName := ⟨RX5, "line", "()I"⟩
abbrev cX5_carry : ByteArray := prog_7_method_32_code
def yX5_carry : MethodName := ⟨RX5, "carry", "(I)I"⟩
abbrev cX5_carryAll : ByteArray := prog_7_method_33_code
def yX5_carryAll : MethodName := ⟨RX5, "carryAll", "([IZ)V"⟩
abbrev cX5_open : ByteArray := prog_7_method_34_code
def yX5_open : MethodName := ⟨RX5, "open", "()V"⟩
abbrev cX5_close : ByteArray := prog_7_method_35_code
def yX5_close : MethodName := ⟨RX5, "close", "()V"⟩
abbrev cX5_image : ByteArray := prog_7_method_36_code
def yX5_image : MethodName := ⟨RX5, "image", "()I"⟩
abbrev cX5_restore : ByteArray := prog_7_method_37_code
def yX5_restore : MethodName := ⟨RX5, "restore", "()I"⟩
abbrev cX5_keepTurn : ByteArray := prog_7_method_38_code
def yX5_keepTurn : MethodName := ⟨RX5, "keepTurn", "()V"⟩
abbrev cX5_back : ByteArray := prog_7_method_39_code
def yX5_back : MethodName := ⟨RX5, "back", "()I"⟩
abbrev cX5_yard : ByteArray := prog_7_method_40_code
def yX5_yard : MethodName := ⟨RX5, "yard", "(II)I"⟩
abbrev cX5_turn : ByteArray := prog_7_method_41_code
def yX5_turn : MethodName := ⟨RX5, "turn", "(III)I"⟩
abbrev cX5_frost : ByteArray := prog_7_method_42_code
def yX5_frost : MethodName := ⟨RX5, "frost", "(II)I"⟩
abbrev cX5_weather : ByteArray := prog_7_method_43_code
def yX5_weather : MethodName := ⟨RX5, "weather", "(II)I"⟩
abbrev cX5_many : ByteArray := prog_7_method_44_code
def yX5_many : MethodName := ⟨RX5, "many", "(I)I"⟩
abbrev cX5_train : ByteArray := prog_7_method_45_code
def yX5_train : MethodName := ⟨RX5, "train", "(III)I"⟩
abbrev cX5_told : ByteArray := prog_7_method_46_code
def yX5_told : MethodName := ⟨RX5, "told", "(II)I"⟩
abbrev cX5_waits : ByteArray := prog_7_method_47_code
def yX5_waits : MethodName := ⟨RX5, "waits", "(II)I"⟩
abbrev cX5_hours : ByteArray := prog_7_method_48_code
def yX5_hours : MethodName := ⟨RX5, "hours", "(I)I"⟩
abbrev cX5_frostIn : ByteArray := prog_7_method_49_code
def yX5_frostIn : MethodName := ⟨RX5, "frostIn", "(II)I"⟩
abbrev cX5_trainIn : ByteArray := prog_7_method_50_code
def yX5_trainIn : MethodName := ⟨RX5, "trainIn", "(III)I"⟩
abbrev cX5_through : ByteArray := prog_7_method_51_code
def yX5_through : MethodName := ⟨RX5, "through", "(II)I"⟩
abbrev cX5_thin : ByteArray := prog_7_method_52_code
def yX5_thin : MethodName := ⟨RX5, "thin", "(II)I"⟩
abbrev cX5_lasts : ByteArray := prog_7_method_53_code
def yX5_lasts : MethodName := ⟨RX5, "lasts", "(II)I"⟩
abbrev cX5_lowest : ByteArray := prog_7_method_54_code
def yX5_lowest : MethodName := ⟨RX5, "lowest", "(II)I"⟩
abbrev cX5_throughIn : ByteArray := prog_7_method_55_code
def yX5_throughIn : MethodName := ⟨RX5, "throughIn", "(I)I"⟩
abbrev cX5_wrongAhead : ByteArray := prog_7_method_56_code
def yX5_wrongAhead : MethodName := ⟨RX5, "wrongAhead", "(II)I"⟩
abbrev cX5_last : ByteArray := prog_7_method_57_code
def yX5_last : MethodName := ⟨RX5, "last", "(I)I"⟩
abbrev cX5_bestWait : ByteArray := prog_7_method_58_code
def yX5_bestWait : MethodName := ⟨RX5, "bestWait", "(II)I"⟩
abbrev cX5_heaviest : ByteArray := prog_7_method_59_code
def yX5_heaviest : MethodName := ⟨RX5, "heaviest", "(II)I"⟩
abbrev cX5_pour : ByteArray := prog_7_method_60_code
def yX5_pour : MethodName := ⟨RX5, "pour", "(I)V"⟩
abbrev cX5_throughBy72 : ByteArray := prog_7_method_61_code
def yX5_throughBy72 : MethodName := ⟨RX5, "throughBy72", "()I"⟩
abbrev cX5_pourFirst : ByteArray := prog_7_method_62_code
def yX5_pourFirst : MethodName := ⟨RX5, "pourFirst", "()I"⟩
abbrev cX5_pourFewest : ByteArray := prog_7_method_63_code
def yX5_pourFewest : MethodName := ⟨RX5, "pourFewest", "(I)I"⟩
abbrev cX5_weakestYard : ByteArray := prog_7_method_64_code
def yX5_weakestYard : MethodName := ⟨RX5, "weakestYard", "()I"⟩
abbrev cX5_allBear : ByteArray := prog_7_method_65_code
def yX5_allBear : MethodName := ⟨RX5, "allBear", "(I)Z"⟩
abbrev cX5_strongest : ByteArray := prog_7_method_66_code
def yX5_strongest : MethodName := ⟨RX5, "strongest", "(I)I"⟩
abbrev cX5_ordersOf : ByteArray := prog_7_method_67_code
def yX5_ordersOf : MethodName := ⟨RX5, "ordersOf", "(I)I"⟩
abbrev cX5_layOrder : ByteArray := prog_7_method_68_code
def yX5_layOrder : MethodName := ⟨RX5, "layOrder", "(II)V"⟩
abbrev cX5_order : ByteArray := prog_7_method_69_code
def yX5_order : MethodName := ⟨RX5, "order", "(I)I"⟩
abbrev cX5_timetable : ByteArray := prog_7_method_70_code
def yX5_timetable : MethodName := ⟨RX5, "timetable", "(II)I"⟩
abbrev cX5_said : ByteArray := prog_7_method_71_code
def yX5_said : MethodName := ⟨RX5, "said", "()I"⟩
abbrev cX5_lies : ByteArray := prog_7_method_72_code
def yX5_lies : MethodName := ⟨RX5, "lies", "()I"⟩
abbrev cX5_besideMean : ByteArray := prog_7_method_73_code
def yX5_besideMean : MethodName := ⟨RX5, "besideMean", "(I)I"⟩
abbrev cX5_tells : ByteArray := prog_7_method_74_code
def yX5_tells : MethodName := ⟨RX5, "tells", "()I"⟩
abbrev cX5_haltNear : ByteArray := prog_7_method_75_code
def yX5_haltNear : MethodName := ⟨RX5, "haltNear", "(I)I"⟩
abbrev cX5_near : ByteArray := prog_7_method_76_code
def yX5_near : MethodName := ⟨RX5, "near", "(I)I"⟩
abbrev cX5_rescue : ByteArray := prog_7_method_77_code
def yX5_rescue : MethodName := ⟨RX5, "rescue", "(I)I"⟩
abbrev cX5_leastOfFew : ByteArray := prog_7_method_78_code
def yX5_leastOfFew : MethodName := ⟨RX5, "leastOfFew", "(III)I"⟩
abbrev cX5_march : ByteArray := prog_7_method_79_code
def yX5_march : MethodName := ⟨RX5, "march", "(I)I"⟩
abbrev cX5_divisor : ByteArray := prog_7_method_80_code
def yX5_divisor : MethodName := ⟨RX5, "divisor", "(JJ)J"⟩
abbrev cX5_noons : ByteArray := prog_7_method_81_code
def yX5_noons : MethodName := ⟨RX5, "noons", "(II)J"⟩
abbrev cX5_thaw : ByteArray := prog_7_method_82_code
def yX5_thaw : MethodName := ⟨RX5, "thaw", "()I"⟩
abbrev cX5_noon : ByteArray := prog_7_method_83_code
def yX5_noon : MethodName := ⟨RX5, "noon", "(I)I"⟩
abbrev cX5_needed : ByteArray := prog_7_method_84_code
def yX5_needed : MethodName := ⟨RX5, "needed", "(II)I"⟩
abbrev cX5_key : ByteArray := prog_7_method_85_code
def yX5_key : MethodName := ⟨RX5, "key", "()I"⟩
abbrev cX5_othersThrough : ByteArray := prog_7_method_86_code
def yX5_othersThrough : MethodName := ⟨RX5, "othersThrough", "(I)I"⟩
abbrev cX5_blocker : ByteArray := prog_7_method_87_code
def yX5_blocker : MethodName := ⟨RX5, "blocker", "()I"⟩
abbrev cX5_allFrost : ByteArray := prog_7_method_88_code
def yX5_allFrost : MethodName := ⟨RX5, "allFrost", "()I"⟩
abbrev cX5_mean : ByteArray := prog_7_method_89_code
def yX5_mean : MethodName := ⟨RX5, "mean", "(II)I"⟩
abbrev cX5_runs : ByteArray := prog_7_method_90_code
def yX5_runs : MethodName := ⟨RX5, "runs", "(II)I"⟩
abbrev cX5_day : ByteArray := prog_7_method_91_code
def yX5_day : MethodName := ⟨RX5, "day", "()I"⟩
abbrev cX5_stands : ByteArray := prog_7_method_92_code
def yX5_stands : MethodName := ⟨RX5, "stands", "(I)I"⟩
abbrev cX5_row : ByteArray := prog_7_method_93_code
def yX5_row : MethodName := ⟨RX5, "row", "(I)I"⟩
abbrev cX5_judge : ByteArray := prog_7_method_94_code
def yX5_judge : MethodName := ⟨RX5, "judge", "(I)I"⟩
abbrev cX5_clear : ByteArray := prog_7_method_95_code
def yX5_clear : MethodName := ⟨RX5, "clear", "()I"⟩
abbrev cX5_drawBelow : ByteArray := prog_7_method_96_code
def yX5_drawBelow : MethodName := ⟨RX5, "drawBelow", "(I)I"⟩
abbrev cX5_lots : ByteArray := prog_7_method_97_code
def yX5_lots : MethodName := ⟨RX5, "lots", "(III)I"⟩
abbrev cX5_count : ByteArray := prog_7_method_98_code
def yX5_count : MethodName := ⟨RX5, "count", "(I)I"⟩
def RL : String := "RailsOfIceLaw"
abbrev cL_law : ByteArray := code
def yL_law : MethodName := ⟨RL, "law", "([I)Z"⟩
abbrev vwCl : List vw_C := [(RX1, TX1, 2), (RX2, TX2, 18), (RX3, TX3, 2), (RX4, TX4, 11), (RX5, TX5, 41)]


-- ===== PART A: goes FIRST, ahead of the names: the tables' words, and 'selects' of the private methods out of them =====
/-- a private method of a class that the tables say can be made, by its rows of tables_1 -/
def lw_okq (q : MethodName × Nat) : Prop := (q.1.cls ≠ "java/lang/invoke/MethodHandle" ∧ q.1.cls ≠ "java/lang/invoke/VarHandle") ∧ Cond.instantiable q.1.cls q.2 ∈ tables_1 ∧ Cond.privateMethod q.1 ∈ tables_1 ∧ Cond.instanceMethod q.1 ∈ tables_1
theorem lw_p0 : lw_okq (⟨"OneLeg", "welcome", "(III)I"⟩, 11) := ⟨⟨by decide +kernel, by decide +kernel⟩, List.mem_of_getElem? (i := 14) (by decide +kernel), List.mem_of_getElem? (i := 285) (by decide +kernel), List.mem_of_getElem? (i := 286) (by decide +kernel)⟩
theorem lw_p1 : lw_okq (⟨"OneLeg", "comesFrom", "(LOneLeg$Shelf;I)Z"⟩, 11) := ⟨⟨by decide +kernel, by decide +kernel⟩, List.mem_of_getElem? (i := 14) (by decide +kernel), List.mem_of_getElem? (i := 296) (by decide +kernel), List.mem_of_getElem? (i := 297) (by decide +kernel)⟩
theorem lw_p2 : lw_okq (⟨"OneLeg", "isNumber", "(II)Z"⟩, 11) := ⟨⟨by decide +kernel, by decide +kernel⟩, List.mem_of_getElem? (i := 14) (by decide +kernel), List.mem_of_getElem? (i := 304) (by decide +kernel), List.mem_of_getElem? (i := 305) (by decide +kernel)⟩
theorem lw_p3 : lw_okq (⟨"OneLeg", "numberOf", "(II)I"⟩, 11) := ⟨⟨by decide +kernel, by decide +kernel⟩, List.mem_of_getElem? (i := 14) (by decide +kernel), List.mem_of_getElem? (i := 316) (by decide +kernel), List.mem_of_getElem? (i := 317) (by decide +kernel)⟩
theorem lw_p4 : lw_okq (⟨"OneLeg$Changes", "dropOldest", "()V"⟩, 6) := ⟨⟨by decide +kernel, by decide +kernel⟩, List.mem_of_getElem? (i := 163) (by decide +kernel), List.mem_of_getElem? (i := 324) (by decide +kernel), List.mem_of_getElem? (i := 325) (by decide +kernel)⟩
theorem lw_p5 : lw_okq (⟨"OneLeg", "become", "(III)V"⟩, 11) := ⟨⟨by decide +kernel, by decide +kernel⟩, List.mem_of_getElem? (i := 14) (by decide +kernel), List.mem_of_getElem? (i := 331) (by decide +kernel), List.mem_of_getElem? (i := 332) (by decide +kernel)⟩
theorem lw_p6 : lw_okq (⟨"OneLeg$Law", "readLines", "()Z"⟩, 8) := ⟨⟨by decide +kernel, by decide +kernel⟩, List.mem_of_getElem? (i := 28) (by decide +kernel), List.mem_of_getElem? (i := 355) (by decide +kernel), List.mem_of_getElem? (i := 356) (by decide +kernel)⟩
theorem lw_p7 : lw_okq (⟨"OneLeg$Law", "readLine", "()Z"⟩, 8) := ⟨⟨by decide +kernel, by decide +kernel⟩, List.mem_of_getElem? (i := 28) (by decide +kernel), List.mem_of_getElem? (i := 359) (by decide +kernel), List.mem_of_getElem? (i := 360) (by decide +kernel)⟩
theorem lw_p8 : lw_okq (⟨"OneLeg$Law", "readChain", "(II)Z"⟩, 8) := ⟨⟨by decide +kernel, by decide +kernel⟩, List.mem_of_getElem? (i := 28) (by decide +kernel), List.mem_of_getElem? (i := 363) (by decide +kernel), List.mem_of_getElem? (i := 364) (by decide +kernel)⟩
theorem lw_p9 : lw_okq (⟨"OneLeg$Law", "readOperand", "(I)Z"⟩, 8) := ⟨⟨by decide +kernel, by decide +kernel⟩, List.mem_of_getElem? (i := 28) (by decide +kernel), List.mem_of_getElem? (i := 367) (by decide +kernel), List.mem_of_getElem? (i := 368) (by decide +kernel)⟩
theorem lw_p10 : lw_okq (⟨"OneLeg$Law", "sign", "()I"⟩, 8) := ⟨⟨by decide +kernel, by decide +kernel⟩, List.mem_of_getElem? (i := 28) (by decide +kernel), List.mem_of_getElem? (i := 371) (by decide +kernel), List.mem_of_getElem? (i := 372) (by decide +kernel)⟩
theorem lw_p11 : lw_okq (⟨"OneLeg$Law", "readNumber", "()V"⟩, 8) := ⟨⟨by decide +kernel, by decide +kernel⟩, List.mem_of_getElem? (i := 28) (by decide +kernel), List.mem_of_getElem? (i := 378) (by decide +kernel), List.mem_of_getElem? (i := 379) (by decide +kernel)⟩
theorem lw_p12 : lw_okq (⟨"OneLeg$Law", "addStep", "(I)V"⟩, 8) := ⟨⟨by decide +kernel, by decide +kernel⟩, List.mem_of_getElem? (i := 28) (by decide +kernel), List.mem_of_getElem? (i := 382) (by decide +kernel), List.mem_of_getElem? (i := 383) (by decide +kernel)⟩
theorem lw_p13 : lw_okq (⟨"OneLeg$Law", "isAccepted", "(I)Z"⟩, 8) := ⟨⟨by decide +kernel, by decide +kernel⟩, List.mem_of_getElem? (i := 28) (by decide +kernel), List.mem_of_getElem? (i := 389) (by decide +kernel), List.mem_of_getElem? (i := 390) (by decide +kernel)⟩
theorem lw_p14 : lw_okq (⟨"OneLeg$Law", "endOfLine", "(I)I"⟩, 8) := ⟨⟨by decide +kernel, by decide +kernel⟩, List.mem_of_getElem? (i := 28) (by decide +kernel), List.mem_of_getElem? (i := 419) (by decide +kernel), List.mem_of_getElem? (i := 420) (by decide +kernel)⟩
theorem lw_p15 : lw_okq (⟨"OneLeg$Thought", "seekFrom", "(III)V"⟩, 10) := ⟨⟨by decide +kernel, by decide +kernel⟩, List.mem_of_getElem? (i := 119) (by decide +kernel), List.mem_of_getElem? (i := 491) (by decide +kernel), List.mem_of_getElem? (i := 492) (by decide +kernel)⟩
def lw_privs_1 : List (MethodName × Nat) := [(⟨"OneLeg", "welcome", "(III)I"⟩, 11), (⟨"OneLeg", "comesFrom", "(LOneLeg$Shelf;I)Z"⟩, 11), (⟨"OneLeg", "isNumber", "(II)Z"⟩, 11), (⟨"OneLeg", "numberOf", "(II)I"⟩, 11), (⟨"OneLeg$Changes", "dropOldest", "()V"⟩, 6), (⟨"OneLeg", "become", "(III)V"⟩, 11), (⟨"OneLeg$Law", "readLines", "()Z"⟩, 8), (⟨"OneLeg$Law", "readLine", "()Z"⟩, 8), (⟨"OneLeg$Law", "readChain", "(II)Z"⟩, 8), (⟨"OneLeg$Law", "readOperand", "(I)Z"⟩, 8), (⟨"OneLeg$Law", "sign", "()I"⟩, 8), (⟨"OneLeg$Law", "readNumber", "()V"⟩, 8), (⟨"OneLeg$Law", "addStep", "(I)V"⟩, 8), (⟨"OneLeg$Law", "isAccepted", "(I)Z"⟩, 8), (⟨"OneLeg$Law", "endOfLine", "(I)I"⟩, 8), (⟨"OneLeg$Thought", "seekFrom", "(III)V"⟩, 10)]
theorem lw_r1 : ∀ q ∈ lw_privs_1, lw_okq q := List.forall_mem_cons.mpr ⟨lw_p0, List.forall_mem_cons.mpr ⟨lw_p1, List.forall_mem_cons.mpr ⟨lw_p2, List.forall_mem_cons.mpr ⟨lw_p3, List.forall_mem_cons.mpr ⟨lw_p4, List.forall_mem_cons.mpr ⟨lw_p5, List.forall_mem_cons.mpr ⟨lw_p6, List.forall_mem_cons.mpr ⟨lw_p7, List.forall_mem_cons.mpr ⟨lw_p8, List.forall_mem_cons.mpr ⟨lw_p9, List.forall_mem_cons.mpr ⟨lw_p10, List.forall_mem_cons.mpr ⟨lw_p11, List.forall_mem_cons.mpr ⟨lw_p12, List.forall_mem_cons.mpr ⟨lw_p13, List.forall_mem_cons.mpr ⟨lw_p14, List.forall_mem_cons.mpr ⟨lw_p15, fun _ h => absurd h List.not_mem_nil⟩⟩⟩⟩⟩⟩⟩⟩⟩⟩⟩⟩⟩⟩⟩⟩
theorem lw_p16 : lw_okq (⟨"OneLeg$Thought", "weigh", "(II)V"⟩, 10) := ⟨⟨by decide +kernel, by decide +kernel⟩, List.mem_of_getElem? (i := 119) (by decide +kernel), List.mem_of_getElem? (i := 495) (by decide +kernel), List.mem_of_getElem? (i := 496) (by decide +kernel)⟩
theorem lw_p17 : lw_okq (⟨"OneLeg", "knownByGroup", "(I)I"⟩, 11) := ⟨⟨by decide +kernel, by decide +kernel⟩, List.mem_of_getElem? (i := 14) (by decide +kernel), List.mem_of_getElem? (i := 505) (by decide +kernel), List.mem_of_getElem? (i := 506) (by decide +kernel)⟩
theorem lw_p18 : lw_okq (⟨"OneLeg", "fewestApart", "()I"⟩, 11) := ⟨⟨by decide +kernel, by decide +kernel⟩, List.mem_of_getElem? (i := 14) (by decide +kernel), List.mem_of_getElem? (i := 520) (by decide +kernel), List.mem_of_getElem? (i := 521) (by decide +kernel)⟩
theorem lw_p19 : lw_okq (⟨"OneLeg", "areToldApart", "(I)Z"⟩, 11) := ⟨⟨by decide +kernel, by decide +kernel⟩, List.mem_of_getElem? (i := 14) (by decide +kernel), List.mem_of_getElem? (i := 524) (by decide +kernel), List.mem_of_getElem? (i := 525) (by decide +kernel)⟩
theorem lw_p20 : lw_okq (⟨"OneLeg", "knownByAll", "()I"⟩, 11) := ⟨⟨by decide +kernel, by decide +kernel⟩, List.mem_of_getElem? (i := 14) (by decide +kernel), List.mem_of_getElem? (i := 528) (by decide +kernel), List.mem_of_getElem? (i := 529) (by decide +kernel)⟩
theorem lw_p21 : lw_okq (⟨"OneLeg$Thought", "holderOf", "(II)I"⟩, 10) := ⟨⟨by decide +kernel, by decide +kernel⟩, List.mem_of_getElem? (i := 119) (by decide +kernel), List.mem_of_getElem? (i := 540) (by decide +kernel), List.mem_of_getElem? (i := 541) (by decide +kernel)⟩
theorem lw_p22 : lw_okq (⟨"OneLeg$Thought", "dealtBy", "(III)I"⟩, 10) := ⟨⟨by decide +kernel, by decide +kernel⟩, List.mem_of_getElem? (i := 119) (by decide +kernel), List.mem_of_getElem? (i := 544) (by decide +kernel), List.mem_of_getElem? (i := 545) (by decide +kernel)⟩
theorem lw_p23 : lw_okq (⟨"OneLeg$Thought", "sortBySlow", "()V"⟩, 10) := ⟨⟨by decide +kernel, by decide +kernel⟩, List.mem_of_getElem? (i := 119) (by decide +kernel), List.mem_of_getElem? (i := 559) (by decide +kernel), List.mem_of_getElem? (i := 560) (by decide +kernel)⟩
theorem lw_p24 : lw_okq (⟨"OneLeg", "firstOut", "()I"⟩, 11) := ⟨⟨by decide +kernel, by decide +kernel⟩, List.mem_of_getElem? (i := 14) (by decide +kernel), List.mem_of_getElem? (i := 563) (by decide +kernel), List.mem_of_getElem? (i := 564) (by decide +kernel)⟩
theorem lw_p25 : lw_okq (⟨"OneLeg", "areShelves", "(I)Z"⟩, 11) := ⟨⟨by decide +kernel, by decide +kernel⟩, List.mem_of_getElem? (i := 14) (by decide +kernel), List.mem_of_getElem? (i := 572) (by decide +kernel), List.mem_of_getElem? (i := 573) (by decide +kernel)⟩
theorem lw_p26 : lw_okq (⟨"OneLeg", "refusalOfDebts", "(I)I"⟩, 11) := ⟨⟨by decide +kernel, by decide +kernel⟩, List.mem_of_getElem? (i := 14) (by decide +kernel), List.mem_of_getElem? (i := 576) (by decide +kernel), List.mem_of_getElem? (i := 577) (by decide +kernel)⟩
theorem lw_p27 : lw_okq (⟨"OneLeg", "firstNotSo", "(IIII)I"⟩, 11) := ⟨⟨by decide +kernel, by decide +kernel⟩, List.mem_of_getElem? (i := 14) (by decide +kernel), List.mem_of_getElem? (i := 580) (by decide +kernel), List.mem_of_getElem? (i := 581) (by decide +kernel)⟩
theorem lw_p28 : lw_okq (⟨"OneLeg", "areBrothers", "(I)Z"⟩, 11) := ⟨⟨by decide +kernel, by decide +kernel⟩, List.mem_of_getElem? (i := 14) (by decide +kernel), List.mem_of_getElem? (i := 588) (by decide +kernel), List.mem_of_getElem? (i := 589) (by decide +kernel)⟩
theorem lw_p29 : lw_okq (⟨"OneLeg$Thought", "worthFrom", "(IIII)I"⟩, 10) := ⟨⟨by decide +kernel, by decide +kernel⟩, List.mem_of_getElem? (i := 119) (by decide +kernel), List.mem_of_getElem? (i := 601) (by decide +kernel), List.mem_of_getElem? (i := 602) (by decide +kernel)⟩
theorem lw_p30 : lw_okq (⟨"OneLeg$Thought", "worthBehind", "(IIIII)I"⟩, 10) := ⟨⟨by decide +kernel, by decide +kernel⟩, List.mem_of_getElem? (i := 119) (by decide +kernel), List.mem_of_getElem? (i := 605) (by decide +kernel), List.mem_of_getElem? (i := 606) (by decide +kernel)⟩
theorem lw_p31 : lw_okq (⟨"OneLeg$Thought", "drawnBy", "(II)I"⟩, 10) := ⟨⟨by decide +kernel, by decide +kernel⟩, List.mem_of_getElem? (i := 119) (by decide +kernel), List.mem_of_getElem? (i := 619) (by decide +kernel), List.mem_of_getElem? (i := 620) (by decide +kernel)⟩
def lw_privs_2 : List (MethodName × Nat) := [(⟨"OneLeg$Thought", "weigh", "(II)V"⟩, 10), (⟨"OneLeg", "knownByGroup", "(I)I"⟩, 11), (⟨"OneLeg", "fewestApart", "()I"⟩, 11), (⟨"OneLeg", "areToldApart", "(I)Z"⟩, 11), (⟨"OneLeg", "knownByAll", "()I"⟩, 11), (⟨"OneLeg$Thought", "holderOf", "(II)I"⟩, 10), (⟨"OneLeg$Thought", "dealtBy", "(III)I"⟩, 10), (⟨"OneLeg$Thought", "sortBySlow", "()V"⟩, 10), (⟨"OneLeg", "firstOut", "()I"⟩, 11), (⟨"OneLeg", "areShelves", "(I)Z"⟩, 11), (⟨"OneLeg", "refusalOfDebts", "(I)I"⟩, 11), (⟨"OneLeg", "firstNotSo", "(IIII)I"⟩, 11), (⟨"OneLeg", "areBrothers", "(I)Z"⟩, 11), (⟨"OneLeg$Thought", "worthFrom", "(IIII)I"⟩, 10), (⟨"OneLeg$Thought", "worthBehind", "(IIIII)I"⟩, 10), (⟨"OneLeg$Thought", "drawnBy", "(II)I"⟩, 10)]
theorem lw_r2 : ∀ q ∈ lw_privs_2, lw_okq q := List.forall_mem_cons.mpr ⟨lw_p16, List.forall_mem_cons.mpr ⟨lw_p17, List.forall_mem_cons.mpr ⟨lw_p18, List.forall_mem_cons.mpr ⟨lw_p19, List.forall_mem_cons.mpr ⟨lw_p20, List.forall_mem_cons.mpr ⟨lw_p21, List.forall_mem_cons.mpr ⟨lw_p22, List.forall_mem_cons.mpr ⟨lw_p23, List.forall_mem_cons.mpr ⟨lw_p24, List.forall_mem_cons.mpr ⟨lw_p25, List.forall_mem_cons.mpr ⟨lw_p26, List.forall_mem_cons.mpr ⟨lw_p27, List.forall_mem_cons.mpr ⟨lw_p28, List.forall_mem_cons.mpr ⟨lw_p29, List.forall_mem_cons.mpr ⟨lw_p30, List.forall_mem_cons.mpr ⟨lw_p31, fun _ h => absurd h List.not_mem_nil⟩⟩⟩⟩⟩⟩⟩⟩⟩⟩⟩⟩⟩⟩⟩⟩
theorem lw_p32 : lw_okq (⟨"OneLeg", "areTwo", "(II)Z"⟩, 11) := ⟨⟨by decide +kernel, by decide +kernel⟩, List.mem_of_getElem? (i := 14) (by decide +kernel), List.mem_of_getElem? (i := 633) (by decide +kernel), List.mem_of_getElem? (i := 634) (by decide +kernel)⟩
theorem lw_p33 : lw_okq (⟨"OneLeg", "isBody", "(I)Z"⟩, 11) := ⟨⟨by decide +kernel, by decide +kernel⟩, List.mem_of_getElem? (i := 14) (by decide +kernel), List.mem_of_getElem? (i := 679) (by decide +kernel), List.mem_of_getElem? (i := 680) (by decide +kernel)⟩
theorem lw_p34 : lw_okq (⟨"OneLeg$Boots", "perform", "(IIIII)I"⟩, 4) := ⟨⟨by decide +kernel, by decide +kernel⟩, List.mem_of_getElem? (i := 194) (by decide +kernel), List.mem_of_getElem? (i := 687) (by decide +kernel), List.mem_of_getElem? (i := 688) (by decide +kernel)⟩
theorem lw_p35 : lw_okq (⟨"OneLeg$Boots", "note", "(I)V"⟩, 4) := ⟨⟨by decide +kernel, by decide +kernel⟩, List.mem_of_getElem? (i := 194) (by decide +kernel), List.mem_of_getElem? (i := 695) (by decide +kernel), List.mem_of_getElem? (i := 696) (by decide +kernel)⟩
theorem lw_p36 : lw_okq (⟨"OneLeg$Boots", "own", "(IIII)I"⟩, 4) := ⟨⟨by decide +kernel, by decide +kernel⟩, List.mem_of_getElem? (i := 194) (by decide +kernel), List.mem_of_getElem? (i := 699) (by decide +kernel), List.mem_of_getElem? (i := 700) (by decide +kernel)⟩
theorem lw_p37 : lw_okq (⟨"OneLeg", "refusalOfPlace", "(II)I"⟩, 11) := ⟨⟨by decide +kernel, by decide +kernel⟩, List.mem_of_getElem? (i := 14) (by decide +kernel), List.mem_of_getElem? (i := 723) (by decide +kernel), List.mem_of_getElem? (i := 724) (by decide +kernel)⟩
theorem lw_p38 : lw_okq (⟨"OneLegModel", "newOne", "(III)I"⟩, 43) := ⟨⟨by decide +kernel, by decide +kernel⟩, List.mem_of_getElem? (i := 755) (by decide +kernel), List.mem_of_getElem? (i := 898) (by decide +kernel), List.mem_of_getElem? (i := 899) (by decide +kernel)⟩
theorem lw_p39 : lw_okq (⟨"OneLegModel", "toldAt", "(II)I"⟩, 43) := ⟨⟨by decide +kernel, by decide +kernel⟩, List.mem_of_getElem? (i := 755) (by decide +kernel), List.mem_of_getElem? (i := 910) (by decide +kernel), List.mem_of_getElem? (i := 911) (by decide +kernel)⟩
theorem lw_p40 : lw_okq (⟨"OneLegModel", "isOf", "(II)Z"⟩, 43) := ⟨⟨by decide +kernel, by decide +kernel⟩, List.mem_of_getElem? (i := 755) (by decide +kernel), List.mem_of_getElem? (i := 918) (by decide +kernel), List.mem_of_getElem? (i := 919) (by decide +kernel)⟩
theorem lw_p41 : lw_okq (⟨"OneLegModel", "isOne", "(I)Z"⟩, 43) := ⟨⟨by decide +kernel, by decide +kernel⟩, List.mem_of_getElem? (i := 755) (by decide +kernel), List.mem_of_getElem? (i := 922) (by decide +kernel), List.mem_of_getElem? (i := 923) (by decide +kernel)⟩
theorem lw_p42 : lw_okq (⟨"OneLegModel", "get", "(II)I"⟩, 43) := ⟨⟨by decide +kernel, by decide +kernel⟩, List.mem_of_getElem? (i := 755) (by decide +kernel), List.mem_of_getElem? (i := 929) (by decide +kernel), List.mem_of_getElem? (i := 930) (by decide +kernel)⟩
theorem lw_p43 : lw_okq (⟨"OneLegModel", "becomes", "(III)V"⟩, 43) := ⟨⟨by decide +kernel, by decide +kernel⟩, List.mem_of_getElem? (i := 755) (by decide +kernel), List.mem_of_getElem? (i := 933) (by decide +kernel), List.mem_of_getElem? (i := 934) (by decide +kernel)⟩
theorem lw_p44 : lw_okq (⟨"OneLegModel", "isLine", "()Z"⟩, 43) := ⟨⟨by decide +kernel, by decide +kernel⟩, List.mem_of_getElem? (i := 755) (by decide +kernel), List.mem_of_getElem? (i := 957) (by decide +kernel), List.mem_of_getElem? (i := 958) (by decide +kernel)⟩
theorem lw_p45 : lw_okq (⟨"OneLegModel", "isE", "()Z"⟩, 43) := ⟨⟨by decide +kernel, by decide +kernel⟩, List.mem_of_getElem? (i := 755) (by decide +kernel), List.mem_of_getElem? (i := 961) (by decide +kernel), List.mem_of_getElem? (i := 962) (by decide +kernel)⟩
theorem lw_p46 : lw_okq (⟨"OneLegModel", "isA", "()Z"⟩, 43) := ⟨⟨by decide +kernel, by decide +kernel⟩, List.mem_of_getElem? (i := 755) (by decide +kernel), List.mem_of_getElem? (i := 965) (by decide +kernel), List.mem_of_getElem? (i := 966) (by decide +kernel)⟩
theorem lw_p47 : lw_okq (⟨"OneLegModel", "isB", "()Z"⟩, 43) := ⟨⟨by decide +kernel, by decide +kernel⟩, List.mem_of_getElem? (i := 755) (by decide +kernel), List.mem_of_getElem? (i := 969) (by decide +kernel), List.mem_of_getElem? (i := 970) (by decide +kernel)⟩
def lw_privs_3 : List (MethodName × Nat) := [(⟨"OneLeg", "areTwo", "(II)Z"⟩, 11), (⟨"OneLeg", "isBody", "(I)Z"⟩, 11), (⟨"OneLeg$Boots", "perform", "(IIIII)I"⟩, 4), (⟨"OneLeg$Boots", "note", "(I)V"⟩, 4), (⟨"OneLeg$Boots", "own", "(IIII)I"⟩, 4), (⟨"OneLeg", "refusalOfPlace", "(II)I"⟩, 11), (⟨"OneLegModel", "newOne", "(III)I"⟩, 43), (⟨"OneLegModel", "toldAt", "(II)I"⟩, 43), (⟨"OneLegModel", "isOf", "(II)Z"⟩, 43), (⟨"OneLegModel", "isOne", "(I)Z"⟩, 43), (⟨"OneLegModel", "get", "(II)I"⟩, 43), (⟨"OneLegModel", "becomes", "(III)V"⟩, 43), (⟨"OneLegModel", "isLine", "()Z"⟩, 43), (⟨"OneLegModel", "isE", "()Z"⟩, 43), (⟨"OneLegModel", "isA", "()Z"⟩, 43), (⟨"OneLegModel", "isB", "()Z"⟩, 43)]
theorem lw_r3 : ∀ q ∈ lw_privs_3, lw_okq q := List.forall_mem_cons.mpr ⟨lw_p32, List.forall_mem_cons.mpr ⟨lw_p33, List.forall_mem_cons.mpr ⟨lw_p34, List.forall_mem_cons.mpr ⟨lw_p35, List.forall_mem_cons.mpr ⟨lw_p36, List.forall_mem_cons.mpr ⟨lw_p37, List.forall_mem_cons.mpr ⟨lw_p38, List.forall_mem_cons.mpr ⟨lw_p39, List.forall_mem_cons.mpr ⟨lw_p40, List.forall_mem_cons.mpr ⟨lw_p41, List.forall_mem_cons.mpr ⟨lw_p42, List.forall_mem_cons.mpr ⟨lw_p43, List.forall_mem_cons.mpr ⟨lw_p44, List.forall_mem_cons.mpr ⟨lw_p45, List.forall_mem_cons.mpr ⟨lw_p46, List.forall_mem_cons.mpr ⟨lw_p47, fun _ h => absurd h List.not_mem_nil⟩⟩⟩⟩⟩⟩⟩⟩⟩⟩⟩⟩⟩⟩⟩⟩
theorem lw_p48 : lw_okq (⟨"OneLegModel", "isS", "()Z"⟩, 43) := ⟨⟨by decide +kernel, by decide +kernel⟩, List.mem_of_getElem? (i := 755) (by decide +kernel), List.mem_of_getElem? (i := 973) (by decide +kernel), List.mem_of_getElem? (i := 974) (by decide +kernel)⟩
theorem lw_p49 : lw_okq (⟨"OneLegModel", "isP", "()Z"⟩, 43) := ⟨⟨by decide +kernel, by decide +kernel⟩, List.mem_of_getElem? (i := 755) (by decide +kernel), List.mem_of_getElem? (i := 977) (by decide +kernel), List.mem_of_getElem? (i := 978) (by decide +kernel)⟩
theorem lw_p50 : lw_okq (⟨"OneLegModel", "isO", "()Z"⟩, 43) := ⟨⟨by decide +kernel, by decide +kernel⟩, List.mem_of_getElem? (i := 755) (by decide +kernel), List.mem_of_getElem? (i := 981) (by decide +kernel), List.mem_of_getElem? (i := 982) (by decide +kernel)⟩
theorem lw_p51 : lw_okq (⟨"OneLegModel", "isDigit", "()Z"⟩, 43) := ⟨⟨by decide +kernel, by decide +kernel⟩, List.mem_of_getElem? (i := 755) (by decide +kernel), List.mem_of_getElem? (i := 985) (by decide +kernel), List.mem_of_getElem? (i := 986) (by decide +kernel)⟩
theorem lw_p52 : lw_okq (⟨"OneLegModel", "sign", "()I"⟩, 43) := ⟨⟨by decide +kernel, by decide +kernel⟩, List.mem_of_getElem? (i := 755) (by decide +kernel), List.mem_of_getElem? (i := 989) (by decide +kernel), List.mem_of_getElem? (i := 990) (by decide +kernel)⟩
theorem lw_p53 : lw_okq (⟨"OneLegModel", "codes", "(I)Z"⟩, 43) := ⟨⟨by decide +kernel, by decide +kernel⟩, List.mem_of_getElem? (i := 755) (by decide +kernel), List.mem_of_getElem? (i := 993) (by decide +kernel), List.mem_of_getElem? (i := 994) (by decide +kernel)⟩
theorem lw_p54 : lw_okq (⟨"OneLegModel", "is", "(I)Z"⟩, 43) := ⟨⟨by decide +kernel, by decide +kernel⟩, List.mem_of_getElem? (i := 755) (by decide +kernel), List.mem_of_getElem? (i := 1000) (by decide +kernel), List.mem_of_getElem? (i := 1001) (by decide +kernel)⟩
theorem lw_p55 : lw_okq (⟨"OneLegModel", "doneBy", "(I)I"⟩, 43) := ⟨⟨by decide +kernel, by decide +kernel⟩, List.mem_of_getElem? (i := 755) (by decide +kernel), List.mem_of_getElem? (i := 1008) (by decide +kernel), List.mem_of_getElem? (i := 1009) (by decide +kernel)⟩
theorem lw_p56 : lw_okq (⟨"OneLegModel", "byLaw", "(I)I"⟩, 43) := ⟨⟨by decide +kernel, by decide +kernel⟩, List.mem_of_getElem? (i := 755) (by decide +kernel), List.mem_of_getElem? (i := 1012) (by decide +kernel), List.mem_of_getElem? (i := 1013) (by decide +kernel)⟩
theorem lw_p57 : lw_okq (⟨"OneLegModel", "wants", "(II)Z"⟩, 43) := ⟨⟨by decide +kernel, by decide +kernel⟩, List.mem_of_getElem? (i := 755) (by decide +kernel), List.mem_of_getElem? (i := 1016) (by decide +kernel), List.mem_of_getElem? (i := 1017) (by decide +kernel)⟩
theorem lw_p58 : lw_okq (⟨"OneLegModel", "worked", "(II)I"⟩, 43) := ⟨⟨by decide +kernel, by decide +kernel⟩, List.mem_of_getElem? (i := 755) (by decide +kernel), List.mem_of_getElem? (i := 1024) (by decide +kernel), List.mem_of_getElem? (i := 1025) (by decide +kernel)⟩
theorem lw_p59 : lw_okq (⟨"OneLegModel", "noBytes", "(I)I"⟩, 43) := ⟨⟨by decide +kernel, by decide +kernel⟩, List.mem_of_getElem? (i := 755) (by decide +kernel), List.mem_of_getElem? (i := 1037) (by decide +kernel), List.mem_of_getElem? (i := 1038) (by decide +kernel)⟩
theorem lw_p60 : lw_okq (⟨"OneLegModel", "keeps", "([I)V"⟩, 43) := ⟨⟨by decide +kernel, by decide +kernel⟩, List.mem_of_getElem? (i := 755) (by decide +kernel), List.mem_of_getElem? (i := 1041) (by decide +kernel), List.mem_of_getElem? (i := 1042) (by decide +kernel)⟩
theorem lw_p61 : lw_okq (⟨"OneLegModel", "goes", "(II)I"⟩, 43) := ⟨⟨by decide +kernel, by decide +kernel⟩, List.mem_of_getElem? (i := 755) (by decide +kernel), List.mem_of_getElem? (i := 1045) (by decide +kernel), List.mem_of_getElem? (i := 1046) (by decide +kernel)⟩
theorem lw_p62 : lw_okq (⟨"OneLegModel", "daysOf", "(I)I"⟩, 43) := ⟨⟨by decide +kernel, by decide +kernel⟩, List.mem_of_getElem? (i := 755) (by decide +kernel), List.mem_of_getElem? (i := 1049) (by decide +kernel), List.mem_of_getElem? (i := 1050) (by decide +kernel)⟩
theorem lw_p63 : lw_okq (⟨"OneLegModel", "passes", "(I)I"⟩, 43) := ⟨⟨by decide +kernel, by decide +kernel⟩, List.mem_of_getElem? (i := 755) (by decide +kernel), List.mem_of_getElem? (i := 1053) (by decide +kernel), List.mem_of_getElem? (i := 1054) (by decide +kernel)⟩
def lw_privs_4 : List (MethodName × Nat) := [(⟨"OneLegModel", "isS", "()Z"⟩, 43), (⟨"OneLegModel", "isP", "()Z"⟩, 43), (⟨"OneLegModel", "isO", "()Z"⟩, 43), (⟨"OneLegModel", "isDigit", "()Z"⟩, 43), (⟨"OneLegModel", "sign", "()I"⟩, 43), (⟨"OneLegModel", "codes", "(I)Z"⟩, 43), (⟨"OneLegModel", "is", "(I)Z"⟩, 43), (⟨"OneLegModel", "doneBy", "(I)I"⟩, 43), (⟨"OneLegModel", "byLaw", "(I)I"⟩, 43), (⟨"OneLegModel", "wants", "(II)Z"⟩, 43), (⟨"OneLegModel", "worked", "(II)I"⟩, 43), (⟨"OneLegModel", "noBytes", "(I)I"⟩, 43), (⟨"OneLegModel", "keeps", "([I)V"⟩, 43), (⟨"OneLegModel", "goes", "(II)I"⟩, 43), (⟨"OneLegModel", "daysOf", "(I)I"⟩, 43), (⟨"OneLegModel", "passes", "(I)I"⟩, 43)]
theorem lw_r4 : ∀ q ∈ lw_privs_4, lw_okq q := List.forall_mem_cons.mpr ⟨lw_p48, List.forall_mem_cons.mpr ⟨lw_p49, List.forall_mem_cons.mpr ⟨lw_p50, List.forall_mem_cons.mpr ⟨lw_p51, List.forall_mem_cons.mpr ⟨lw_p52, List.forall_mem_cons.mpr ⟨lw_p53, List.forall_mem_cons.mpr ⟨lw_p54, List.forall_mem_cons.mpr ⟨lw_p55, List.forall_mem_cons.mpr ⟨lw_p56, List.forall_mem_cons.mpr ⟨lw_p57, List.forall_mem_cons.mpr ⟨lw_p58, List.forall_mem_cons.mpr ⟨lw_p59, List.forall_mem_cons.mpr ⟨lw_p60, List.forall_mem_cons.mpr ⟨lw_p61, List.forall_mem_cons.mpr ⟨lw_p62, List.forall_mem_cons.mpr ⟨lw_p63, fun _ h => absurd h List.not_mem_nil⟩⟩⟩⟩⟩⟩⟩⟩⟩⟩⟩⟩⟩⟩⟩⟩
theorem lw_p64 : lw_okq (⟨"OneLegModel", "allOwed", "()I"⟩, 43) := ⟨⟨by decide +kernel, by decide +kernel⟩, List.mem_of_getElem? (i := 755) (by decide +kernel), List.mem_of_getElem? (i := 1057) (by decide +kernel), List.mem_of_getElem? (i := 1058) (by decide +kernel)⟩
theorem lw_p65 : lw_okq (⟨"OneLegModel", "laysBack", "([I)V"⟩, 43) := ⟨⟨by decide +kernel, by decide +kernel⟩, List.mem_of_getElem? (i := 755) (by decide +kernel), List.mem_of_getElem? (i := 1061) (by decide +kernel), List.mem_of_getElem? (i := 1062) (by decide +kernel)⟩
theorem lw_p66 : lw_okq (⟨"OneLegModel", "tries", "(II)V"⟩, 43) := ⟨⟨by decide +kernel, by decide +kernel⟩, List.mem_of_getElem? (i := 755) (by decide +kernel), List.mem_of_getElem? (i := 1073) (by decide +kernel), List.mem_of_getElem? (i := 1074) (by decide +kernel)⟩
theorem lw_p67 : lw_okq (⟨"OneLegModel", "knownBy", "(I)I"⟩, 43) := ⟨⟨by decide +kernel, by decide +kernel⟩, List.mem_of_getElem? (i := 755) (by decide +kernel), List.mem_of_getElem? (i := 1081) (by decide +kernel), List.mem_of_getElem? (i := 1082) (by decide +kernel)⟩
theorem lw_p68 : lw_okq (⟨"OneLegModel", "parts", "(I)Z"⟩, 43) := ⟨⟨by decide +kernel, by decide +kernel⟩, List.mem_of_getElem? (i := 755) (by decide +kernel), List.mem_of_getElem? (i := 1089) (by decide +kernel), List.mem_of_getElem? (i := 1090) (by decide +kernel)⟩
theorem lw_p69 : lw_okq (⟨"OneLegModel", "deals", "(III)V"⟩, 43) := ⟨⟨by decide +kernel, by decide +kernel⟩, List.mem_of_getElem? (i := 755) (by decide +kernel), List.mem_of_getElem? (i := 1097) (by decide +kernel), List.mem_of_getElem? (i := 1098) (by decide +kernel)⟩
theorem lw_p70 : lw_okq (⟨"OneLegModel", "burns", "()V"⟩, 43) := ⟨⟨by decide +kernel, by decide +kernel⟩, List.mem_of_getElem? (i := 755) (by decide +kernel), List.mem_of_getElem? (i := 1105) (by decide +kernel), List.mem_of_getElem? (i := 1106) (by decide +kernel)⟩
theorem lw_p71 : lw_okq (⟨"OneLegModel", "goOut", "(III)I"⟩, 43) := ⟨⟨by decide +kernel, by decide +kernel⟩, List.mem_of_getElem? (i := 755) (by decide +kernel), List.mem_of_getElem? (i := 1109) (by decide +kernel), List.mem_of_getElem? (i := 1110) (by decide +kernel)⟩
theorem lw_p72 : lw_okq (⟨"OneLegModel", "slow", "(I)I"⟩, 43) := ⟨⟨by decide +kernel, by decide +kernel⟩, List.mem_of_getElem? (i := 755) (by decide +kernel), List.mem_of_getElem? (i := 1113) (by decide +kernel), List.mem_of_getElem? (i := 1114) (by decide +kernel)⟩
theorem lw_p73 : lw_okq (⟨"OneLegModel", "noDebts", "(I)I"⟩, 43) := ⟨⟨by decide +kernel, by decide +kernel⟩, List.mem_of_getElem? (i := 755) (by decide +kernel), List.mem_of_getElem? (i := 1121) (by decide +kernel), List.mem_of_getElem? (i := 1122) (by decide +kernel)⟩
theorem lw_p74 : lw_okq (⟨"OneLegModel", "unlike", "(II)I"⟩, 43) := ⟨⟨by decide +kernel, by decide +kernel⟩, List.mem_of_getElem? (i := 755) (by decide +kernel), List.mem_of_getElem? (i := 1125) (by decide +kernel), List.mem_of_getElem? (i := 1126) (by decide +kernel)⟩
theorem lw_p75 : lw_okq (⟨"OneLegModel", "turnBy", "(IIIZ)I"⟩, 43) := ⟨⟨by decide +kernel, by decide +kernel⟩, List.mem_of_getElem? (i := 755) (by decide +kernel), List.mem_of_getElem? (i := 1138) (by decide +kernel), List.mem_of_getElem? (i := 1139) (by decide +kernel)⟩
theorem lw_p76 : lw_okq (⟨"OneLegModel", "turnFrom", "(III)I"⟩, 43) := ⟨⟨by decide +kernel, by decide +kernel⟩, List.mem_of_getElem? (i := 755) (by decide +kernel), List.mem_of_getElem? (i := 1142) (by decide +kernel), List.mem_of_getElem? (i := 1143) (by decide +kernel)⟩
theorem lw_p77 : lw_okq (⟨"OneLegModel", "walksBy", "(III)I"⟩, 43) := ⟨⟨by decide +kernel, by decide +kernel⟩, List.mem_of_getElem? (i := 755) (by decide +kernel), List.mem_of_getElem? (i := 1188) (by decide +kernel), List.mem_of_getElem? (i := 1189) (by decide +kernel)⟩
theorem lw_p78 : lw_okq (⟨"OneLegModel", "ran", "(I)V"⟩, 43) := ⟨⟨by decide +kernel, by decide +kernel⟩, List.mem_of_getElem? (i := 755) (by decide +kernel), List.mem_of_getElem? (i := 1192) (by decide +kernel), List.mem_of_getElem? (i := 1193) (by decide +kernel)⟩
theorem lw_p79 : lw_okq (⟨"OneLegModel", "leansBy", "(III)I"⟩, 43) := ⟨⟨by decide +kernel, by decide +kernel⟩, List.mem_of_getElem? (i := 755) (by decide +kernel), List.mem_of_getElem? (i := 1199) (by decide +kernel), List.mem_of_getElem? (i := 1200) (by decide +kernel)⟩
def lw_privs_5 : List (MethodName × Nat) := [(⟨"OneLegModel", "allOwed", "()I"⟩, 43), (⟨"OneLegModel", "laysBack", "([I)V"⟩, 43), (⟨"OneLegModel", "tries", "(II)V"⟩, 43), (⟨"OneLegModel", "knownBy", "(I)I"⟩, 43), (⟨"OneLegModel", "parts", "(I)Z"⟩, 43), (⟨"OneLegModel", "deals", "(III)V"⟩, 43), (⟨"OneLegModel", "burns", "()V"⟩, 43), (⟨"OneLegModel", "goOut", "(III)I"⟩, 43), (⟨"OneLegModel", "slow", "(I)I"⟩, 43), (⟨"OneLegModel", "noDebts", "(I)I"⟩, 43), (⟨"OneLegModel", "unlike", "(II)I"⟩, 43), (⟨"OneLegModel", "turnBy", "(IIIZ)I"⟩, 43), (⟨"OneLegModel", "turnFrom", "(III)I"⟩, 43), (⟨"OneLegModel", "walksBy", "(III)I"⟩, 43), (⟨"OneLegModel", "ran", "(I)V"⟩, 43), (⟨"OneLegModel", "leansBy", "(III)I"⟩, 43)]
theorem lw_r5 : ∀ q ∈ lw_privs_5, lw_okq q := List.forall_mem_cons.mpr ⟨lw_p64, List.forall_mem_cons.mpr ⟨lw_p65, List.forall_mem_cons.mpr ⟨lw_p66, List.forall_mem_cons.mpr ⟨lw_p67, List.forall_mem_cons.mpr ⟨lw_p68, List.forall_mem_cons.mpr ⟨lw_p69, List.forall_mem_cons.mpr ⟨lw_p70, List.forall_mem_cons.mpr ⟨lw_p71, List.forall_mem_cons.mpr ⟨lw_p72, List.forall_mem_cons.mpr ⟨lw_p73, List.forall_mem_cons.mpr ⟨lw_p74, List.forall_mem_cons.mpr ⟨lw_p75, List.forall_mem_cons.mpr ⟨lw_p76, List.forall_mem_cons.mpr ⟨lw_p77, List.forall_mem_cons.mpr ⟨lw_p78, List.forall_mem_cons.mpr ⟨lw_p79, fun _ h => absurd h List.not_mem_nil⟩⟩⟩⟩⟩⟩⟩⟩⟩⟩⟩⟩⟩⟩⟩⟩
theorem lw_p80 : lw_okq (⟨"OneLegModel", "owesBy", "(III)I"⟩, 43) := ⟨⟨by decide +kernel, by decide +kernel⟩, List.mem_of_getElem? (i := 755) (by decide +kernel), List.mem_of_getElem? (i := 1203) (by decide +kernel), List.mem_of_getElem? (i := 1204) (by decide +kernel)⟩
theorem lw_p81 : lw_okq (⟨"OneLegModel", "tells", "(III)I"⟩, 43) := ⟨⟨by decide +kernel, by decide +kernel⟩, List.mem_of_getElem? (i := 755) (by decide +kernel), List.mem_of_getElem? (i := 1207) (by decide +kernel), List.mem_of_getElem? (i := 1208) (by decide +kernel)⟩
theorem lw_p82 : lw_okq (⟨"OneLegModel", "isRow", "(I)Z"⟩, 43) := ⟨⟨by decide +kernel, by decide +kernel⟩, List.mem_of_getElem? (i := 755) (by decide +kernel), List.mem_of_getElem? (i := 1227) (by decide +kernel), List.mem_of_getElem? (i := 1228) (by decide +kernel)⟩
def lw_privs_6 : List (MethodName × Nat) := [(⟨"OneLegModel", "owesBy", "(III)I"⟩, 43), (⟨"OneLegModel", "tells", "(III)I"⟩, 43), (⟨"OneLegModel", "isRow", "(I)Z"⟩, 43)]
theorem lw_r6 : ∀ q ∈ lw_privs_6, lw_okq q := List.forall_mem_cons.mpr ⟨lw_p80, List.forall_mem_cons.mpr ⟨lw_p81, List.forall_mem_cons.mpr ⟨lw_p82, fun _ h => absurd h List.not_mem_nil⟩⟩⟩
def lw_privs : List (MethodName × Nat) := lw_privs_1 ++ (lw_privs_2 ++ (lw_privs_3 ++ (lw_privs_4 ++ (lw_privs_5 ++ (lw_privs_6)))))
def lw_tbl : List Cond := k2_sels lw_privs ++ tables_1
theorem lw_privs_ok : ∀ q ∈ lw_privs, lw_okq q := by
  show ∀ q ∈ lw_privs_1 ++ (lw_privs_2 ++ (lw_privs_3 ++ (lw_privs_4 ++ (lw_privs_5 ++ (lw_privs_6))))), lw_okq q
  exact List.forall_mem_append.mpr ⟨lw_r1, List.forall_mem_append.mpr ⟨lw_r2, List.forall_mem_append.mpr ⟨lw_r3, List.forall_mem_append.mpr ⟨lw_r4, List.forall_mem_append.mpr ⟨lw_r5, lw_r6⟩⟩⟩⟩⟩

def RX0 : String := "OneLeg$Boots"
def TX0 : u_T := fun k => match k with
  | 0 => ("OneLeg$Boots", "kinds", "[I", true)
  | 1 => ("OneLeg$Boots", "size", "I", false)
  | 2 => ("OneLeg$Boots", "traced", "[I", true)
  | _ => ("OneLeg$Boots", "ran", "I", false)
def tyX0 : Nat → FieldType := fun k => match k with
  | 0 => .array .int
  | 1 => .int
  | 2 => .array .int
  | _ => .int
theorem nmX0 : ∀ a, a < 4 → ∀ b, b < 4 → a ≠ b → (TX0 a).2.1 ≠ (TX0 b).2.1 := by decide +kernel
theorem tyX0_ok : ∀ k, k < 4 → parseFieldDescriptor (TX0 k).2.2.1 = some (tyX0 k) := by decide +kernel
abbrev cX0_init : ByteArray := prog_2_method_1_code
def yX0_init : MethodName := ⟨RX0, "<init>", "()V"⟩
abbrev cX0_add : ByteArray := prog_2_method_2_code
def yX0_add : MethodName := ⟨RX0, "add", "(I)I"⟩
abbrev cX0_isUnder : ByteArray := prog_2_method_3_code
def yX0_isUnder : MethodName := ⟨RX0, "isUnder", "(II)Z"⟩
abbrev cX0_run : ByteArray := prog_2_method_4_code
def yX0_run : MethodName := ⟨RX0, "run", "(III)I"⟩
abbrev cX0_perform : ByteArray := prog_2_method_5_code
def yX0_perform : MethodName := ⟨RX0, "perform", "(IIIII)I"⟩
abbrev cX0_own : ByteArray := prog_2_method_6_code
def yX0_own : MethodName := ⟨RX0, "own", "(IIII)I"⟩
abbrev cX0_note : ByteArray := prog_2_method_7_code
def yX0_note : MethodName := ⟨RX0, "note", "(I)V"⟩
def RX1 : String := "OneLeg$Changes"
def TX1 : u_T := fun k => match k with
  | 0 => ("OneLeg$Changes", "numbers", "[I", true)
  | 1 => ("OneLeg$Changes", "whats", "[I", true)
  | 2 => ("OneLeg$Changes", "before", "[I", true)
  | 3 => ("OneLeg$Changes", "after", "[I", true)
  | 4 => ("OneLeg$Changes", "done", "I", false)
  | _ => ("OneLeg$Changes", "kept", "I", false)
def tyX1 : Nat → FieldType := fun k => match k with
  | 0 => .array .int
  | 1 => .array .int
  | 2 => .array .int
  | 3 => .array .int
  | 4 => .int
  | _ => .int
theorem nmX1 : ∀ a, a < 6 → ∀ b, b < 6 → a ≠ b → (TX1 a).2.1 ≠ (TX1 b).2.1 := by decide +kernel
theorem tyX1_ok : ∀ k, k < 6 → parseFieldDescriptor (TX1 k).2.2.1 = some (tyX1 k) := by decide +kernel
abbrev cX1_init : ByteArray := prog_3_method_1_code
def yX1_init : MethodName := ⟨RX1, "<init>", "()V"⟩
abbrev cX1_add : ByteArray := prog_3_method_2_code
def yX1_add : MethodName := ⟨RX1, "add", "(IIII)V"⟩
abbrev cX1_dropOldest : ByteArray := prog_3_method_3_code
def yX1_dropOldest : MethodName := ⟨RX1, "dropOldest", "()V"⟩
def RX2 : String := "OneLeg$House"
def TX2 : u_T := fun k => match k with
  | 0 => ("OneLeg$House", "size", "I", false)
  | 1 => ("OneLeg$House", "wants", "[I", true)
  | 2 => ("OneLeg$House", "slow", "[I", true)
  | 3 => ("OneLeg$House", "kinds", "[I", true)
  | 4 => ("OneLeg$House", "facts", "[I", true)
  | 5 => ("OneLeg$House", "law", "LOneLeg$Law;", true)
  | _ => ("OneLeg$House", "named", "[I", true)
def tyX2 : Nat → FieldType := fun k => match k with
  | 0 => .int
  | 1 => .array .int
  | 2 => .array .int
  | 3 => .array .int
  | 4 => .array .int
  | 5 => .object "OneLeg$Law"
  | _ => .array .int
theorem nmX2 : ∀ a, a < 7 → ∀ b, b < 7 → a ≠ b → (TX2 a).2.1 ≠ (TX2 b).2.1 := by decide +kernel
theorem tyX2_ok : ∀ k, k < 7 → parseFieldDescriptor (TX2 k).2.2.1 = some (tyX2 k) := by decide +kernel
abbrev cX2_init : ByteArray := prog_4_method_1_code
def yX2_init : MethodName := ⟨RX2, "<init>", "()V"⟩
abbrev cX2_isOne : ByteArray := prog_4_method_2_code
def yX2_isOne : MethodName := ⟨RX2, "isOne", "(I)Z"⟩
abbrev cX2_mayHave : ByteArray := prog_4_method_3_code
def yX2_mayHave : MethodName := ⟨RX2, "mayHave", "(J)Z"⟩
abbrev cX2_doneBy : ByteArray := prog_4_method_4_code
def yX2_doneBy : MethodName := ⟨RX2, "doneBy", "(LOneLeg$Standing;I)I"⟩
abbrev cX2_pass : ByteArray := prog_4_method_5_code
def yX2_pass : MethodName := ⟨RX2, "pass", "(LOneLeg$Standing;I)I"⟩
abbrev cX2_owedBehind : ByteArray := prog_4_method_6_code
def yX2_owedBehind : MethodName := ⟨RX2, "owedBehind", "(IIIII)I"⟩
abbrev cX2_daysOf : ByteArray := prog_4_method_7_code
def yX2_daysOf : MethodName := ⟨RX2, "daysOf", "(LOneLeg$Shelf;)I"⟩
def RX3 : String := "OneLeg$Law"
def TX3 : u_T := fun k => match k with
  | 0 => ("OneLeg$Law", "steps", "[I", true)
  | 1 => ("OneLeg$Law", "size", "I", false)
  | 2 => ("OneLeg$Law", "stack", "[I", true)
  | 3 => ("OneLeg$Law", "tape", "[I", true)
  | 4 => ("OneLeg$Law", "length", "I", false)
  | 5 => ("OneLeg$Law", "at", "I", false)
  | 6 => ("OneLeg$Law", "draft", "[I", true)
  | _ => ("OneLeg$Law", "drafted", "I", false)
def tyX3 : Nat → FieldType := fun k => match k with
  | 0 => .array .int
  | 1 => .int
  | 2 => .array .int
  | 3 => .array .int
  | 4 => .int
  | 5 => .int
  | 6 => .array .int
  | _ => .int
theorem nmX3 : ∀ a, a < 8 → ∀ b, b < 8 → a ≠ b → (TX3 a).2.1 ≠ (TX3 b).2.1 := by decide +kernel
theorem tyX3_ok : ∀ k, k < 8 → parseFieldDescriptor (TX3 k).2.2.1 = some (tyX3 k) := by decide +kernel
abbrev cX3_init : ByteArray := prog_5_method_1_code
def yX3_init : MethodName := ⟨RX3, "<init>", "()V"⟩
abbrev cX3_isWritten : ByteArray := prog_5_method_2_code
def yX3_isWritten : MethodName := ⟨RX3, "isWritten", "()Z"⟩
abbrev cX3_write : ByteArray := prog_5_method_3_code
def yX3_write : MethodName := ⟨RX3, "write", "(I)I"⟩
abbrev cX3_read : ByteArray := prog_5_method_4_code
def yX3_read : MethodName := ⟨RX3, "read", "()I"⟩
abbrev cX3_readLines : ByteArray := prog_5_method_5_code
def yX3_readLines : MethodName := ⟨RX3, "readLines", "()Z"⟩
abbrev cX3_readLine : ByteArray := prog_5_method_6_code
def yX3_readLine : MethodName := ⟨RX3, "readLine", "()Z"⟩
abbrev cX3_readChain : ByteArray := prog_5_method_7_code
def yX3_readChain : MethodName := ⟨RX3, "readChain", "(II)Z"⟩
abbrev cX3_readOperand : ByteArray := prog_5_method_8_code
def yX3_readOperand : MethodName := ⟨RX3, "readOperand", "(I)Z"⟩
abbrev cX3_readNumber : ByteArray := prog_5_method_9_code
def yX3_readNumber : MethodName := ⟨RX3, "readNumber", "()V"⟩
abbrev cX3_isAccepted : ByteArray := prog_5_method_10_code
def yX3_isAccepted : MethodName := ⟨RX3, "isAccepted", "(I)Z"⟩
abbrev cX3_sign : ByteArray := prog_5_method_11_code
def yX3_sign : MethodName := ⟨RX3, "sign", "()I"⟩
abbrev cX3_addStep : ByteArray := prog_5_method_12_code
def yX3_addStep : MethodName := ⟨RX3, "addStep", "(I)V"⟩
abbrev cX3_isDigit : ByteArray := prog_5_method_13_code
def yX3_isDigit : MethodName := ⟨RX3, "isDigit", "(I)Z"⟩
abbrev cX3_nameOf : ByteArray := prog_5_method_14_code
def yX3_nameOf : MethodName := ⟨RX3, "nameOf", "(I)I"⟩
abbrev cX3_levelOf : ByteArray := prog_5_method_15_code
def yX3_levelOf : MethodName := ⟨RX3, "levelOf", "(I)I"⟩
abbrev cX3_workOut : ByteArray := prog_5_method_16_code
def yX3_workOut : MethodName := ⟨RX3, "workOut", "([I)I"⟩
abbrev cX3_endOfLine : ByteArray := prog_5_method_17_code
def yX3_endOfLine : MethodName := ⟨RX3, "endOfLine", "(I)I"⟩
abbrev cX3_joined : ByteArray := prog_5_method_18_code
def yX3_joined : MethodName := ⟨RX3, "joined", "(III)I"⟩
def RX4 : String := "OneLeg$Shelf"
def TX4 : u_T := fun k => match k with
  | 0 => ("OneLeg$Shelf", "holds", "I", false)
  | 1 => ("OneLeg$Shelf", "boot", "I", false)
  | 2 => ("OneLeg$Shelf", "size", "I", false)
  | _ => ("OneLeg$Shelf", "elements", "[J", true)
def tyX4 : Nat → FieldType := fun k => match k with
  | 0 => .int
  | 1 => .int
  | 2 => .int
  | _ => .array .long
theorem nmX4 : ∀ a, a < 4 → ∀ b, b < 4 → a ≠ b → (TX4 a).2.1 ≠ (TX4 b).2.1 := by decide +kernel
theorem tyX4_ok : ∀ k, k < 4 → parseFieldDescriptor (TX4 k).2.2.1 = some (tyX4 k) := by decide +kernel
abbrev cX4_init : ByteArray := prog_6_method_1_code
def yX4_init : MethodName := ⟨RX4, "<init>", "()V"⟩
abbrev cX4_becomeRow : ByteArray := prog_6_method_2_code
def yX4_becomeRow : MethodName := ⟨RX4, "becomeRow", "(II)V"⟩
abbrev cX4_refusalFor : ByteArray := prog_6_method_3_code
def yX4_refusalFor : MethodName := ⟨RX4, "refusalFor", "(I)I"⟩
abbrev cX4_hasPlaces : ByteArray := prog_6_method_4_code
def yX4_hasPlaces : MethodName := ⟨RX4, "hasPlaces", "(II)Z"⟩
abbrev cX4_cut : ByteArray := prog_6_method_5_code
def yX4_cut : MethodName := ⟨RX4, "cut", "(J)J"⟩
def RX5 : String := "OneLeg$Standing"
def TX5 : u_T := fun k => match k with
  | 0 => ("OneLeg$Standing", "owed", "[I", true)
  | 1 => ("OneLeg$Standing", "knows", "[I", true)
  | 2 => ("OneLeg$Standing", "worn", "I", false)
  | _ => ("OneLeg$Standing", "today", "I", false)
def tyX5 : Nat → FieldType := fun k => match k with
  | 0 => .array .int
  | 1 => .array .int
  | 2 => .int
  | _ => .int
theorem nmX5 : ∀ a, a < 4 → ∀ b, b < 4 → a ≠ b → (TX5 a).2.1 ≠ (TX5 b).2.1 := by decide +kernel
theorem tyX5_ok : ∀ k, k < 4 → parseFieldDescriptor (TX5 k).2.2.1 = some (tyX5 k) := by decide +kernel
abbrev cX5_init : ByteArray := prog_7_method_1_code
def yX5_init : MethodName := ⟨RX5, "<init>", "()V"⟩
abbrev cX5_copyFrom : ByteArray := prog_7_method_2_code
def yX5_copyFrom : MethodName := ⟨RX5, "copyFrom", "(LOneLeg$Standing;I)V"⟩
abbrev cX5_owedOfAll : ByteArray := prog_7_method_3_code
def yX5_owedOfAll : MethodName := ⟨RX5, "owedOfAll", "(I)I"⟩
def RX6 : String := "OneLeg$Thought"
def TX6 : u_T := fun k => match k with
  | 0 => ("OneLeg$Thought", "bestDone", "I", false)
  | 1 => ("OneLeg$Thought", "bestOwed", "I", false)
  | 2 => ("OneLeg$Thought", "bestRota", "[I", true)
  | 3 => ("OneLeg$Thought", "isTakenFirst", "Z", false)
  | 4 => ("OneLeg$Thought", "house", "LOneLeg$House;", true)
  | 5 => ("OneLeg$Thought", "steps", "[LOneLeg$Standing;", true)
  | 6 => ("OneLeg$Thought", "rota", "[I", true)
  | 7 => ("OneLeg$Thought", "hasBest", "Z", false)
  | 8 => ("OneLeg$Thought", "mostDealt", "[I", true)
  | _ => ("OneLeg$Thought", "bySlow", "[I", true)
def tyX6 : Nat → FieldType := fun k => match k with
  | 0 => .int
  | 1 => .int
  | 2 => .array .int
  | 3 => .boolean
  | 4 => .object "OneLeg$House"
  | 5 => .array (.object "OneLeg$Standing")
  | 6 => .array .int
  | 7 => .boolean
  | 8 => .array .int
  | _ => .array .int
theorem nmX6 : ∀ a, a < 10 → ∀ b, b < 10 → a ≠ b → (TX6 a).2.1 ≠ (TX6 b).2.1 := by decide +kernel
theorem tyX6_ok : ∀ k, k < 10 → parseFieldDescriptor (TX6 k).2.2.1 = some (tyX6 k) := by decide +kernel
abbrev cX6_init : ByteArray := prog_8_method_1_code
def yX6_init : MethodName := ⟨RX6, "<init>", "(LOneLeg$House;)V"⟩
abbrev cX6_latest : ByteArray := prog_8_method_2_code
def yX6_latest : MethodName := ⟨RX6, "latest", "()LOneLeg$Standing;"⟩
abbrev cX6_follow : ByteArray := prog_8_method_3_code
def yX6_follow : MethodName := ⟨RX6, "follow", "(LOneLeg$Standing;LOneLeg$Shelf;I)I"⟩
abbrev cX6_seekBest : ByteArray := prog_8_method_4_code
def yX6_seekBest : MethodName := ⟨RX6, "seekBest", "(LOneLeg$Standing;I)V"⟩
abbrev cX6_seekFrom : ByteArray := prog_8_method_5_code
def yX6_seekFrom : MethodName := ⟨RX6, "seekFrom", "(III)V"⟩
abbrev cX6_weigh : ByteArray := prog_8_method_6_code
def yX6_weigh : MethodName := ⟨RX6, "weigh", "(II)V"⟩
abbrev cX6_worthOfTurns : ByteArray := prog_8_method_7_code
def yX6_worthOfTurns : MethodName := ⟨RX6, "worthOfTurns", "(LOneLeg$Standing;III)I"⟩
abbrev cX6_worthFrom : ByteArray := prog_8_method_8_code
def yX6_worthFrom : MethodName := ⟨RX6, "worthFrom", "(IIII)I"⟩
abbrev cX6_worthBehind : ByteArray := prog_8_method_9_code
def yX6_worthBehind : MethodName := ⟨RX6, "worthBehind", "(IIIII)I"⟩
abbrev cX6_draw : ByteArray := prog_8_method_10_code
def yX6_draw : MethodName := ⟨RX6, "draw", "(LOneLeg$Standing;IIIII)I"⟩
abbrev cX6_drawnBy : ByteArray := prog_8_method_11_code
def yX6_drawnBy : MethodName := ⟨RX6, "drawnBy", "(II)I"⟩
abbrev cX6_dealt : ByteArray := prog_8_method_12_code
def yX6_dealt : MethodName := ⟨RX6, "dealt", "(I)I"⟩
abbrev cX6_holderOf : ByteArray := prog_8_method_13_code
def yX6_holderOf : MethodName := ⟨RX6, "holderOf", "(II)I"⟩
abbrev cX6_dealtBy : ByteArray := prog_8_method_14_code
def yX6_dealtBy : MethodName := ⟨RX6, "dealtBy", "(III)I"⟩
abbrev cX6_groupOf : ByteArray := prog_8_method_15_code
def yX6_groupOf : MethodName := ⟨RX6, "groupOf", "(I)I"⟩
abbrev cX6_minutesOut : ByteArray := prog_8_method_16_code
def yX6_minutesOut : MethodName := ⟨RX6, "minutesOut", "()I"⟩
abbrev cX6_sortBySlow : ByteArray := prog_8_method_17_code
def yX6_sortBySlow : MethodName := ⟨RX6, "sortBySlow", "()V"⟩
def RX7 : String := "OneLeg"
def TX7 : u_T := fun k => match k with
  | 0 => ("OneLeg", "house", "LOneLeg$House;", true)
  | 1 => ("OneLeg", "now", "LOneLeg$Standing;", true)
  | 2 => ("OneLeg", "led", "[I", true)
  | 3 => ("OneLeg", "imaged", "LOneLeg$Standing;", true)
  | 4 => ("OneLeg", "imagedLed", "[I", true)
  | 5 => ("OneLeg", "imagedBrothers", "I", false)
  | 6 => ("OneLeg", "hasImage", "Z", false)
  | 7 => ("OneLeg", "thought", "LOneLeg$Thought;", true)
  | 8 => ("OneLeg", "changes", "LOneLeg$Changes;", true)
  | 9 => ("OneLeg", "boots", "LOneLeg$Boots;", true)
  | _ => ("OneLeg", "shelves", "[LOneLeg$Shelf;", true)
def tyX7 : Nat → FieldType := fun k => match k with
  | 0 => .object "OneLeg$House"
  | 1 => .object "OneLeg$Standing"
  | 2 => .array .int
  | 3 => .object "OneLeg$Standing"
  | 4 => .array .int
  | 5 => .int
  | 6 => .boolean
  | 7 => .object "OneLeg$Thought"
  | 8 => .object "OneLeg$Changes"
  | 9 => .object "OneLeg$Boots"
  | _ => .array (.object "OneLeg$Shelf")
theorem nmX7 : ∀ a, a < 11 → ∀ b, b < 11 → a ≠ b → (TX7 a).2.1 ≠ (TX7 b).2.1 := by decide +kernel
theorem tyX7_ok : ∀ k, k < 11 → parseFieldDescriptor (TX7 k).2.2.1 = some (tyX7 k) := by decide +kernel
abbrev cX7_init : ByteArray := prog_1_method_1_code
def yX7_init : MethodName := ⟨RX7, "<init>", "()V"⟩
abbrev cX7_brother : ByteArray := prog_1_method_2_code
def yX7_brother : MethodName := ⟨RX7, "brother", "(I)I"⟩
abbrev cX7_brothers : ByteArray := prog_1_method_3_code
def yX7_brothers : MethodName := ⟨RX7, "brothers", "(III)I"⟩
abbrev cX7_comesFrom : ByteArray := prog_1_method_4_code
def yX7_comesFrom : MethodName := ⟨RX7, "comesFrom", "(LOneLeg$Shelf;I)Z"⟩
abbrev cX7_welcome : ByteArray := prog_1_method_5_code
def yX7_welcome : MethodName := ⟨RX7, "welcome", "(III)I"⟩
abbrev cX7_mend : ByteArray := prog_1_method_6_code
def yX7_mend : MethodName := ⟨RX7, "mend", "(III)I"⟩
abbrev cX7_of : ByteArray := prog_1_method_7_code
def yX7_of : MethodName := ⟨RX7, "of", "(II)I"⟩
abbrev cX7_isNumber : ByteArray := prog_1_method_8_code
def yX7_isNumber : MethodName := ⟨RX7, "isNumber", "(II)Z"⟩
abbrev cX7_numberOf : ByteArray := prog_1_method_9_code
def yX7_numberOf : MethodName := ⟨RX7, "numberOf", "(II)I"⟩
abbrev cX7_become : ByteArray := prog_1_method_10_code
def yX7_become : MethodName := ⟨RX7, "become", "(III)V"⟩
abbrev cX7_feed : ByteArray := prog_1_method_11_code
def yX7_feed : MethodName := ⟨RX7, "feed", "(I)I"⟩
abbrev cX7_law : ByteArray := prog_1_method_12_code
def yX7_law : MethodName := ⟨RX7, "law", "()I"⟩
abbrev cX7_does : ByteArray := prog_1_method_13_code
def yX7_does : MethodName := ⟨RX7, "does", "(I)I"⟩
abbrev cX7_later : ByteArray := prog_1_method_14_code
def yX7_later : MethodName := ⟨RX7, "later", "(IIII)I"⟩
abbrev cX7_deep : ByteArray := prog_1_method_15_code
def yX7_deep : MethodName := ⟨RX7, "deep", "(III)I"⟩
abbrev cX7_bestRota : ByteArray := prog_1_method_16_code
def yX7_bestRota : MethodName := ⟨RX7, "bestRota", "(II)I"⟩
abbrev cX7_told : ByteArray := prog_1_method_17_code
def yX7_told : MethodName := ⟨RX7, "told", "(III)I"⟩
abbrev cX7_knownByGroup : ByteArray := prog_1_method_18_code
def yX7_knownByGroup : MethodName := ⟨RX7, "knownByGroup", "(I)I"⟩
abbrev cX7_apart : ByteArray := prog_1_method_19_code
def yX7_apart : MethodName := ⟨RX7, "apart", "(I)I"⟩
abbrev cX7_fewestApart : ByteArray := prog_1_method_20_code
def yX7_fewestApart : MethodName := ⟨RX7, "fewestApart", "()I"⟩
abbrev cX7_areToldApart : ByteArray := prog_1_method_21_code
def yX7_areToldApart : MethodName := ⟨RX7, "areToldApart", "(I)Z"⟩
abbrev cX7_knownByAll : ByteArray := prog_1_method_22_code
def yX7_knownByAll : MethodName := ⟨RX7, "knownByAll", "()I"⟩
abbrev cX7_fewer : ByteArray := prog_1_method_23_code
def yX7_fewer : MethodName := ⟨RX7, "fewer", "(II)I"⟩
abbrev cX7_manyOrWhich : ByteArray := prog_1_method_24_code
def yX7_manyOrWhich : MethodName := ⟨RX7, "manyOrWhich", "(II)I"⟩
abbrev cX7_week : ByteArray := prog_1_method_25_code
def yX7_week : MethodName := ⟨RX7, "week", "(I)I"⟩
abbrev cX7_fire : ByteArray := prog_1_method_26_code
def yX7_fire : MethodName := ⟨RX7, "fire", "(I)I"⟩
abbrev cX7_firstOut : ByteArray := prog_1_method_27_code
def yX7_firstOut : MethodName := ⟨RX7, "firstOut", "()I"⟩
abbrev cX7_judge : ByteArray := prog_1_method_28_code
def yX7_judge : MethodName := ⟨RX7, "judge", "(II)I"⟩
abbrev cX7_fits : ByteArray := prog_1_method_29_code
def yX7_fits : MethodName := ⟨RX7, "fits", "(III)I"⟩
abbrev cX7_areShelves : ByteArray := prog_1_method_30_code
def yX7_areShelves : MethodName := ⟨RX7, "areShelves", "(I)Z"⟩
abbrev cX7_areBrothers : ByteArray := prog_1_method_31_code
def yX7_areBrothers : MethodName := ⟨RX7, "areBrothers", "(I)Z"⟩
abbrev cX7_refusalOfDebts : ByteArray := prog_1_method_32_code
def yX7_refusalOfDebts : MethodName := ⟨RX7, "refusalOfDebts", "(I)I"⟩
abbrev cX7_firstNotSo : ByteArray := prog_1_method_33_code
def yX7_firstNotSo : MethodName := ⟨RX7, "firstNotSo", "(IIII)I"⟩
abbrev cX7_byTurns : ByteArray := prog_1_method_34_code
def yX7_byTurns : MethodName := ⟨RX7, "byTurns", "(III)I"⟩
abbrev cX7_drawn : ByteArray := prog_1_method_35_code
def yX7_drawn : MethodName := ⟨RX7, "drawn", "(III)I"⟩
abbrev cX7_day : ByteArray := prog_1_method_36_code
def yX7_day : MethodName := ⟨RX7, "day", "(I)I"⟩
abbrev cX7_tells : ByteArray := prog_1_method_37_code
def yX7_tells : MethodName := ⟨RX7, "tells", "(II)I"⟩
abbrev cX7_pays : ByteArray := prog_1_method_38_code
def yX7_pays : MethodName := ⟨RX7, "pays", "(III)I"⟩
abbrev cX7_areTwo : ByteArray := prog_1_method_39_code
def yX7_areTwo : MethodName := ⟨RX7, "areTwo", "(II)Z"⟩
abbrev cX7_cobble : ByteArray := prog_1_method_40_code
def yX7_cobble : MethodName := ⟨RX7, "cobble", "()I"⟩
abbrev cX7_led : ByteArray := prog_1_method_41_code
def yX7_led : MethodName := ⟨RX7, "led", "(I)I"⟩
abbrev cX7_image : ByteArray := prog_1_method_42_code
def yX7_image : MethodName := ⟨RX7, "image", "()I"⟩
abbrev cX7_back : ByteArray := prog_1_method_43_code
def yX7_back : MethodName := ⟨RX7, "back", "()I"⟩
abbrev cX7_undo : ByteArray := prog_1_method_44_code
def yX7_undo : MethodName := ⟨RX7, "undo", "()I"⟩
abbrev cX7_redo : ByteArray := prog_1_method_45_code
def yX7_redo : MethodName := ⟨RX7, "redo", "()I"⟩
abbrev cX7_body : ByteArray := prog_1_method_46_code
def yX7_body : MethodName := ⟨RX7, "body", "(I)I"⟩
abbrev cX7_act : ByteArray := prog_1_method_47_code
def yX7_act : MethodName := ⟨RX7, "act", "(III)I"⟩
abbrev cX7_trace : ByteArray := prog_1_method_48_code
def yX7_trace : MethodName := ⟨RX7, "trace", "(I)I"⟩
abbrev cX7_keep : ByteArray := prog_1_method_49_code
def yX7_keep : MethodName := ⟨RX7, "keep", "(II)I"⟩
abbrev cX7_row : ByteArray := prog_1_method_50_code
def yX7_row : MethodName := ⟨RX7, "row", "(III)I"⟩
abbrev cX7_put : ByteArray := prog_1_method_51_code
def yX7_put : MethodName := ⟨RX7, "put", "(IIJ)I"⟩
abbrev cX7_element : ByteArray := prog_1_method_52_code
def yX7_element : MethodName := ⟨RX7, "element", "(II)J"⟩
abbrev cX7_refusalOfPlace : ByteArray := prog_1_method_53_code
def yX7_refusalOfPlace : MethodName := ⟨RX7, "refusalOfPlace", "(II)I"⟩
abbrev cX7_shift : ByteArray := prog_1_method_54_code
def yX7_shift : MethodName := ⟨RX7, "shift", "(IIIII)I"⟩
abbrev cX7_taken : ByteArray := prog_1_method_55_code
def yX7_taken : MethodName := ⟨RX7, "taken", "(II)I"⟩
abbrev cX7_count : ByteArray := prog_1_method_56_code
def yX7_count : MethodName := ⟨RX7, "count", "(I)I"⟩
abbrev cX7_isBody : ByteArray := prog_1_method_57_code
def yX7_isBody : MethodName := ⟨RX7, "isBody", "(I)Z"⟩
abbrev cX7_isShelf : ByteArray := prog_1_method_58_code
def yX7_isShelf : MethodName := ⟨RX7, "isShelf", "(I)Z"⟩
abbrev cX7_isWithin : ByteArray := prog_1_method_59_code
def yX7_isWithin : MethodName := ⟨RX7, "isWithin", "(III)Z"⟩
def RX8 : String := "OneLegModel"
def TX8 : u_T := fun k => match k with
  | 0 => ("OneLegModel", "brothers", "I", false)
  | 1 => ("OneLegModel", "ways", "[I", true)
  | 2 => ("OneLegModel", "other", "[I", true)
  | 3 => ("OneLegModel", "taped", "I", false)
  | 4 => ("OneLegModel", "tape", "[I", true)
  | 5 => ("OneLegModel", "isTold", "Z", false)
  | 6 => ("OneLegModel", "lines", "I", false)
  | 7 => ("OneLegModel", "asks", "[I", true)
  | 8 => ("OneLegModel", "says", "[I", true)
  | 9 => ("OneLegModel", "ends", "[I", true)
  | 10 => ("OneLegModel", "code", "[I", true)
  | 11 => ("OneLegModel", "at", "I", false)
  | 12 => ("OneLegModel", "open", "I", false)
  | 13 => ("OneLegModel", "coded", "I", false)
  | 14 => ("OneLegModel", "newLines", "I", false)
  | 15 => ("OneLegModel", "newAsks", "[I", true)
  | 16 => ("OneLegModel", "newSays", "[I", true)
  | 17 => ("OneLegModel", "newEnds", "[I", true)
  | 18 => ("OneLegModel", "newCode", "[I", true)
  | 19 => ("OneLegModel", "stack", "[I", true)
  | 20 => ("OneLegModel", "names", "[I", true)
  | 21 => ("OneLegModel", "led", "[I", true)
  | 22 => ("OneLegModel", "imaged", "Z", false)
  | 23 => ("OneLegModel", "oldBrothers", "I", false)
  | 24 => ("OneLegModel", "old", "[I", true)
  | 25 => ("OneLegModel", "oldLed", "[I", true)
  | 26 => ("OneLegModel", "changes", "I", false)
  | 27 => ("OneLegModel", "done", "I", false)
  | 28 => ("OneLegModel", "changed", "[I", true)
  | 29 => ("OneLegModel", "bodies", "I", false)
  | 30 => ("OneLegModel", "bodyKind", "[I", true)
  | 31 => ("OneLegModel", "traced", "I", false)
  | 32 => ("OneLegModel", "traces", "[I", true)
  | 33 => ("OneLegModel", "holding", "[I", true)
  | 34 => ("OneLegModel", "rowLength", "[I", true)
  | 35 => ("OneLegModel", "rowOf", "[J", true)
  | 36 => ("OneLegModel", "was", "[I", true)
  | 37 => ("OneLegModel", "begun", "[I", true)
  | 38 => ("OneLegModel", "tried", "[I", true)
  | 39 => ("OneLegModel", "best", "[I", true)
  | 40 => ("OneLegModel", "most", "I", false)
  | 41 => ("OneLegModel", "least", "I", false)
  | _ => ("OneLegModel", "minutes", "[I", true)
def tyX8 : Nat → FieldType := fun k => match k with
  | 0 => .int
  | 1 => .array .int
  | 2 => .array .int
  | 3 => .int
  | 4 => .array .int
  | 5 => .boolean
  | 6 => .int
  | 7 => .array .int
  | 8 => .array .int
  | 9 => .array .int
  | 10 => .array .int
  | 11 => .int
  | 12 => .int
  | 13 => .int
  | 14 => .int
  | 15 => .array .int
  | 16 => .array .int
  | 17 => .array .int
  | 18 => .array .int
  | 19 => .array .int
  | 20 => .array .int
  | 21 => .array .int
  | 22 => .boolean
  | 23 => .int
  | 24 => .array .int
  | 25 => .array .int
  | 26 => .int
  | 27 => .int
  | 28 => .array .int
  | 29 => .int
  | 30 => .array .int
  | 31 => .int
  | 32 => .array .int
  | 33 => .array .int
  | 34 => .array .int
  | 35 => .array .long
  | 36 => .array .int
  | 37 => .array .int
  | 38 => .array .int
  | 39 => .array .int
  | 40 => .int
  | 41 => .int
  | _ => .array .int
theorem nmX8 : ∀ a, a < 43 → ∀ b, b < 43 → a ≠ b → (TX8 a).2.1 ≠ (TX8 b).2.1 := by decide +kernel
theorem tyX8_ok : ∀ k, k < 43 → parseFieldDescriptor (TX8 k).2.2.1 = some (tyX8 k) := by decide +kernel
abbrev cX8_init : ByteArray := prog_10_method_1_code
def yX8_init : MethodName := ⟨RX8, "<init>", "()V"⟩
abbrev cX8_within : ByteArray := prog_10_method_2_code
def yX8_within : MethodName := ⟨RX8, "within", "(III)Z"⟩
abbrev cX8_isOne : ByteArray := prog_10_method_3_code
def yX8_isOne : MethodName := ⟨RX8, "isOne", "(I)Z"⟩
abbrev cX8_isShelf : ByteArray := prog_10_method_4_code
def yX8_isShelf : MethodName := ⟨RX8, "isShelf", "(I)Z"⟩
abbrev cX8_has : ByteArray := prog_10_method_5_code
def yX8_has : MethodName := ⟨RX8, "has", "(II)Z"⟩
abbrev cX8_newOne : ByteArray := prog_10_method_6_code
def yX8_newOne : MethodName := ⟨RX8, "newOne", "(III)I"⟩
abbrev cX8_brother : ByteArray := prog_10_method_7_code
def yX8_brother : MethodName := ⟨RX8, "brother", "(I)I"⟩
abbrev cX8_brothers : ByteArray := prog_10_method_8_code
def yX8_brothers : MethodName := ⟨RX8, "brothers", "(III)I"⟩
abbrev cX8_toldAt : ByteArray := prog_10_method_9_code
def yX8_toldAt : MethodName := ⟨RX8, "toldAt", "(II)I"⟩
abbrev cX8_isOf : ByteArray := prog_10_method_10_code
def yX8_isOf : MethodName := ⟨RX8, "isOf", "(II)Z"⟩
abbrev cX8_isFit : ByteArray := prog_10_method_11_code
def yX8_isFit : MethodName := ⟨RX8, "isFit", "(II)Z"⟩
abbrev cX8_get : ByteArray := prog_10_method_12_code
def yX8_get : MethodName := ⟨RX8, "get", "(II)I"⟩
abbrev cX8_becomes : ByteArray := prog_10_method_13_code
def yX8_becomes : MethodName := ⟨RX8, "becomes", "(III)V"⟩
abbrev cX8_mend : ByteArray := prog_10_method_14_code
def yX8_mend : MethodName := ⟨RX8, "mend", "(III)I"⟩
abbrev cX8_of : ByteArray := prog_10_method_15_code
def yX8_of : MethodName := ⟨RX8, "of", "(II)I"⟩
abbrev cX8_undo : ByteArray := prog_10_method_16_code
def yX8_undo : MethodName := ⟨RX8, "undo", "()I"⟩
abbrev cX8_redo : ByteArray := prog_10_method_17_code
def yX8_redo : MethodName := ⟨RX8, "redo", "()I"⟩
abbrev cX8_feed : ByteArray := prog_10_method_18_code
def yX8_feed : MethodName := ⟨RX8, "feed", "(I)I"⟩
abbrev cX8_sign : ByteArray := prog_10_method_19_code
def yX8_sign : MethodName := ⟨RX8, "sign", "()I"⟩
abbrev cX8_is : ByteArray := prog_10_method_20_code
def yX8_is : MethodName := ⟨RX8, "is", "(I)Z"⟩
abbrev cX8_codes : ByteArray := prog_10_method_21_code
def yX8_codes : MethodName := ⟨RX8, "codes", "(I)Z"⟩
abbrev cX8_isDigit : ByteArray := prog_10_method_22_code
def yX8_isDigit : MethodName := ⟨RX8, "isDigit", "()Z"⟩
abbrev cX8_nameOf : ByteArray := prog_10_method_23_code
def yX8_nameOf : MethodName := ⟨RX8, "nameOf", "(I)I"⟩
abbrev cX8_isO : ByteArray := prog_10_method_24_code
def yX8_isO : MethodName := ⟨RX8, "isO", "()Z"⟩
abbrev cX8_isP : ByteArray := prog_10_method_25_code
def yX8_isP : MethodName := ⟨RX8, "isP", "()Z"⟩
abbrev cX8_isS : ByteArray := prog_10_method_26_code
def yX8_isS : MethodName := ⟨RX8, "isS", "()Z"⟩
abbrev cX8_isB : ByteArray := prog_10_method_27_code
def yX8_isB : MethodName := ⟨RX8, "isB", "()Z"⟩
abbrev cX8_isA : ByteArray := prog_10_method_28_code
def yX8_isA : MethodName := ⟨RX8, "isA", "()Z"⟩
abbrev cX8_isE : ByteArray := prog_10_method_29_code
def yX8_isE : MethodName := ⟨RX8, "isE", "()Z"⟩
abbrev cX8_isLine : ByteArray := prog_10_method_30_code
def yX8_isLine : MethodName := ⟨RX8, "isLine", "()Z"⟩
abbrev cX8_law : ByteArray := prog_10_method_31_code
def yX8_law : MethodName := ⟨RX8, "law", "()I"⟩
abbrev cX8_both : ByteArray := prog_10_method_32_code
def yX8_both : MethodName := ⟨RX8, "both", "(III)I"⟩
abbrev cX8_worked : ByteArray := prog_10_method_33_code
def yX8_worked : MethodName := ⟨RX8, "worked", "(II)I"⟩
abbrev cX8_wants : ByteArray := prog_10_method_34_code
def yX8_wants : MethodName := ⟨RX8, "wants", "(II)Z"⟩
abbrev cX8_byLaw : ByteArray := prog_10_method_35_code
def yX8_byLaw : MethodName := ⟨RX8, "byLaw", "(I)I"⟩
abbrev cX8_doneBy : ByteArray := prog_10_method_36_code
def yX8_doneBy : MethodName := ⟨RX8, "doneBy", "(I)I"⟩
abbrev cX8_does : ByteArray := prog_10_method_37_code
def yX8_does : MethodName := ⟨RX8, "does", "(I)I"⟩
abbrev cX8_passes : ByteArray := prog_10_method_38_code
def yX8_passes : MethodName := ⟨RX8, "passes", "(I)I"⟩
abbrev cX8_keeps : ByteArray := prog_10_method_39_code
def yX8_keeps : MethodName := ⟨RX8, "keeps", "([I)V"⟩
abbrev cX8_laysBack : ByteArray := prog_10_method_40_code
def yX8_laysBack : MethodName := ⟨RX8, "laysBack", "([I)V"⟩
abbrev cX8_allOwed : ByteArray := prog_10_method_41_code
def yX8_allOwed : MethodName := ⟨RX8, "allOwed", "()I"⟩
abbrev cX8_noBytes : ByteArray := prog_10_method_42_code
def yX8_noBytes : MethodName := ⟨RX8, "noBytes", "(I)I"⟩
abbrev cX8_daysOf : ByteArray := prog_10_method_43_code
def yX8_daysOf : MethodName := ⟨RX8, "daysOf", "(I)I"⟩
abbrev cX8_goes : ByteArray := prog_10_method_44_code
def yX8_goes : MethodName := ⟨RX8, "goes", "(II)I"⟩
abbrev cX8_later : ByteArray := prog_10_method_45_code
def yX8_later : MethodName := ⟨RX8, "later", "(IIII)I"⟩
abbrev cX8_deep : ByteArray := prog_10_method_46_code
def yX8_deep : MethodName := ⟨RX8, "deep", "(III)I"⟩
abbrev cX8_tries : ByteArray := prog_10_method_47_code
def yX8_tries : MethodName := ⟨RX8, "tries", "(II)V"⟩
abbrev cX8_bestRota : ByteArray := prog_10_method_48_code
def yX8_bestRota : MethodName := ⟨RX8, "bestRota", "(II)I"⟩
abbrev cX8_knownBy : ByteArray := prog_10_method_49_code
def yX8_knownBy : MethodName := ⟨RX8, "knownBy", "(I)I"⟩
abbrev cX8_told : ByteArray := prog_10_method_50_code
def yX8_told : MethodName := ⟨RX8, "told", "(III)I"⟩
abbrev cX8_parts : ByteArray := prog_10_method_51_code
def yX8_parts : MethodName := ⟨RX8, "parts", "(I)Z"⟩
abbrev cX8_apart : ByteArray := prog_10_method_52_code
def yX8_apart : MethodName := ⟨RX8, "apart", "(I)I"⟩
abbrev cX8_deals : ByteArray := prog_10_method_53_code
def yX8_deals : MethodName := ⟨RX8, "deals", "(III)V"⟩
abbrev cX8_week : ByteArray := prog_10_method_54_code
def yX8_week : MethodName := ⟨RX8, "week", "(I)I"⟩
abbrev cX8_slow : ByteArray := prog_10_method_55_code
def yX8_slow : MethodName := ⟨RX8, "slow", "(I)I"⟩
abbrev cX8_goOut : ByteArray := prog_10_method_56_code
def yX8_goOut : MethodName := ⟨RX8, "goOut", "(III)I"⟩
abbrev cX8_burns : ByteArray := prog_10_method_57_code
def yX8_burns : MethodName := ⟨RX8, "burns", "()V"⟩
abbrev cX8_fire : ByteArray := prog_10_method_58_code
def yX8_fire : MethodName := ⟨RX8, "fire", "(I)I"⟩
abbrev cX8_noDebts : ByteArray := prog_10_method_59_code
def yX8_noDebts : MethodName := ⟨RX8, "noDebts", "(I)I"⟩
abbrev cX8_unlike : ByteArray := prog_10_method_60_code
def yX8_unlike : MethodName := ⟨RX8, "unlike", "(II)I"⟩
abbrev cX8_judge : ByteArray := prog_10_method_61_code
def yX8_judge : MethodName := ⟨RX8, "judge", "(II)I"⟩
abbrev cX8_fits : ByteArray := prog_10_method_62_code
def yX8_fits : MethodName := ⟨RX8, "fits", "(III)I"⟩
abbrev cX8_turnFrom : ByteArray := prog_10_method_63_code
def yX8_turnFrom : MethodName := ⟨RX8, "turnFrom", "(III)I"⟩
abbrev cX8_turnBy : ByteArray := prog_10_method_64_code
def yX8_turnBy : MethodName := ⟨RX8, "turnBy", "(IIIZ)I"⟩
abbrev cX8_byTurns : ByteArray := prog_10_method_65_code
def yX8_byTurns : MethodName := ⟨RX8, "byTurns", "(III)I"⟩
abbrev cX8_drawn : ByteArray := prog_10_method_66_code
def yX8_drawn : MethodName := ⟨RX8, "drawn", "(III)I"⟩
abbrev cX8_day : ByteArray := prog_10_method_67_code
def yX8_day : MethodName := ⟨RX8, "day", "(I)I"⟩
abbrev cX8_tells : ByteArray := prog_10_method_68_code
def yX8_tells : MethodName := ⟨RX8, "tells", "(II)I"⟩
abbrev cX8_pays : ByteArray := prog_10_method_69_code
def yX8_pays : MethodName := ⟨RX8, "pays", "(III)I"⟩
abbrev cX8_cobble : ByteArray := prog_10_method_70_code
def yX8_cobble : MethodName := ⟨RX8, "cobble", "()I"⟩
abbrev cX8_led : ByteArray := prog_10_method_71_code
def yX8_led : MethodName := ⟨RX8, "led", "(I)I"⟩
abbrev cX8_image : ByteArray := prog_10_method_72_code
def yX8_image : MethodName := ⟨RX8, "image", "()I"⟩
abbrev cX8_back : ByteArray := prog_10_method_73_code
def yX8_back : MethodName := ⟨RX8, "back", "()I"⟩
abbrev cX8_above : ByteArray := prog_10_method_74_code
def yX8_above : MethodName := ⟨RX8, "above", "(I)I"⟩
abbrev cX8_ran : ByteArray := prog_10_method_75_code
def yX8_ran : MethodName := ⟨RX8, "ran", "(I)V"⟩
abbrev cX8_walksBy : ByteArray := prog_10_method_76_code
def yX8_walksBy : MethodName := ⟨RX8, "walksBy", "(III)I"⟩
abbrev cX8_leansBy : ByteArray := prog_10_method_77_code
def yX8_leansBy : MethodName := ⟨RX8, "leansBy", "(III)I"⟩
abbrev cX8_owesBy : ByteArray := prog_10_method_78_code
def yX8_owesBy : MethodName := ⟨RX8, "owesBy", "(III)I"⟩
abbrev cX8_tells_ : ByteArray := prog_10_method_79_code
def yX8_tells_ : MethodName := ⟨RX8, "tells", "(III)I"⟩
abbrev cX8_body : ByteArray := prog_10_method_80_code
def yX8_body : MethodName := ⟨RX8, "body", "(I)I"⟩
abbrev cX8_act : ByteArray := prog_10_method_81_code
def yX8_act : MethodName := ⟨RX8, "act", "(III)I"⟩
abbrev cX8_trace : ByteArray := prog_10_method_82_code
def yX8_trace : MethodName := ⟨RX8, "trace", "(I)I"⟩
abbrev cX8_keep : ByteArray := prog_10_method_83_code
def yX8_keep : MethodName := ⟨RX8, "keep", "(II)I"⟩
abbrev cX8_row : ByteArray := prog_10_method_84_code
def yX8_row : MethodName := ⟨RX8, "row", "(III)I"⟩
abbrev cX8_isRow : ByteArray := prog_10_method_85_code
def yX8_isRow : MethodName := ⟨RX8, "isRow", "(I)Z"⟩
abbrev cX8_kept : ByteArray := prog_10_method_86_code
def yX8_kept : MethodName := ⟨RX8, "kept", "(IJ)J"⟩
abbrev cX8_put : ByteArray := prog_10_method_87_code
def yX8_put : MethodName := ⟨RX8, "put", "(IIJ)I"⟩
abbrev cX8_element : ByteArray := prog_10_method_88_code
def yX8_element : MethodName := ⟨RX8, "element", "(II)J"⟩
abbrev cX8_shift : ByteArray := prog_10_method_89_code
def yX8_shift : MethodName := ⟨RX8, "shift", "(IIIII)I"⟩
abbrev cX8_taken : ByteArray := prog_10_method_90_code
def yX8_taken : MethodName := ⟨RX8, "taken", "(II)I"⟩
abbrev cX8_count : ByteArray := prog_10_method_91_code
def yX8_count : MethodName := ⟨RX8, "count", "(I)I"⟩
def RJ6 : String := "java/lang/Integer"
abbrev cJ6_bitCount_0f7a4 : ByteArray := prog_11_method_49_code
def yJ6_bitCount_0f7a4 : MethodName := ⟨RJ6, "bitCount", "(I)I"⟩
def RJ9 : String := "java/lang/Math"
abbrev cJ9_max_7cf53 : ByteArray := prog_12_method_65_code
def yJ9_max_7cf53 : MethodName := ⟨RJ9, "max", "(II)I"⟩
abbrev cJ9_min_7cf53 : ByteArray := prog_12_method_69_code
def yJ9_min_7cf53 : MethodName := ⟨RJ9, "min", "(II)I"⟩
def RJ10 : String := "java/lang/System"
abbrev vwCl : List vw_C := [(RX0, TX0, 4), (RX1, TX1, 6), (RX2, TX2, 7), (RX3, TX3, 8), (RX4, TX4, 4), (RX5, TX5, 4), (RX6, TX6, 10), (RX7, TX7, 11), (RX8, TX8, 43)]
theorem rf_mem {big : List Cond} (ws : List Cond) (ps : List Nat) (hp : ws = ps.filterMap (fun i => big[i]?)) : ∀ w ∈ ws, w ∈ big := by
  intro w hw
  rw [hp] at hw
  obtain ⟨i, -, hi⟩ := List.mem_filterMap.mp hw
  exact List.mem_of_getElem? hi
set_option maxRecDepth 20000 in
theorem inX0 : ∀ w ∈ u_ws RX0 TX0 4, w ∈ lw_tbl := rf_mem _ [290, 292, 294, 296] rfl
set_option maxRecDepth 20000 in
theorem inX1 : ∀ w ∈ u_ws RX1 TX1 6, w ∈ lw_tbl := rf_mem _ [263, 265, 267, 269, 271, 273] rfl
set_option maxRecDepth 20000 in
theorem inX2 : ∀ w ∈ u_ws RX2 TX2 7, w ∈ lw_tbl := rf_mem _ [159, 161, 163, 165, 167, 169, 171] rfl
set_option maxRecDepth 20000 in
theorem inX3 : ∀ w ∈ u_ws RX3 TX3 8, w ∈ lw_tbl := rf_mem _ [125, 127, 129, 131, 133, 135, 137, 139] rfl
set_option maxRecDepth 20000 in
theorem inX4 : ∀ w ∈ u_ws RX4 TX4 4, w ∈ lw_tbl := rf_mem _ [316, 318, 320, 322] rfl
set_option maxRecDepth 20000 in
theorem inX5 : ∀ w ∈ u_ws RX5 TX5 4, w ∈ lw_tbl := rf_mem _ [192, 194, 196, 198] rfl
set_option maxRecDepth 20000 in
theorem inX6 : ∀ w ∈ u_ws RX6 TX6 10, w ∈ lw_tbl := rf_mem _ [224, 226, 228, 230, 232, 234, 236, 238, 240, 242] rfl
set_option maxRecDepth 20000 in
theorem inX7 : ∀ w ∈ u_ws RX7 TX7 11, w ∈ lw_tbl := rf_mem _ [337, 339, 341, 343, 345, 347, 349, 351, 353, 355, 357] rfl
set_option maxRecDepth 20000 in
theorem inX8 : ∀ w ∈ u_ws RX8 TX8 43, w ∈ lw_tbl := rf_mem _ [886, 888, 890, 892, 894, 896, 898, 900, 902, 904, 906, 908, 910, 912, 914, 916, 918, 920, 922, 924, 926, 928, 930, 932, 934, 936, 938, 940, 942, 944, 946, 948, 950, 952, 954, 956, 958, 960, 962, 964, 966, 968, 970] rfl

section
-- ===== PART A: goes FIRST, ahead of the names: the tables' words, and 'selects' of the private methods out of them =====
/-- a private method of a class that the tables say can be made, by its rows of tables_1 -/
def lw_okq (q : MethodName × Nat) : Prop := (q.1.cls ≠ "java/lang/invoke/MethodHandle" ∧ q.1.cls ≠ "java/lang/invoke/VarHandle") ∧ Cond.instantiable q.1.cls q.2 ∈ tables_1 ∧ Cond.privateMethod q.1 ∈ tables_1 ∧ Cond.instanceMethod q.1 ∈ tables_1
theorem lw_p0 : lw_okq (⟨"OneLeg", "welcome", "(III)I"⟩, 11) := ⟨⟨by decide +kernel, by decide +kernel⟩, List.mem_of_getElem? (i := 14) (by decide +kernel), List.mem_of_getElem? (i := 285) (by decide +kernel), List.mem_of_getElem? (i := 286) (by decide +kernel)⟩
theorem lw_p1 : lw_okq (⟨"OneLeg", "comesFrom", "(LOneLeg$Shelf;I)Z"⟩, 11) := ⟨⟨by decide +kernel, by decide +kernel⟩, List.mem_of_getElem? (i := 14) (by decide +kernel), List.mem_of_getElem? (i := 296) (by decide +kernel), List.mem_of_getElem? (i := 297) (by decide +kernel)⟩
theorem lw_p2 : lw_okq (⟨"OneLeg", "isNumber", "(II)Z"⟩, 11) := ⟨⟨by decide +kernel, by decide +kernel⟩, List.mem_of_getElem? (i := 14) (by decide +kernel), List.mem_of_getElem? (i := 304) (by decide +kernel), List.mem_of_getElem? (i := 305) (by decide +kernel)⟩
theorem lw_p3 : lw_okq (⟨"OneLeg", "numberOf", "(II)I"⟩, 11) := ⟨⟨by decide +kernel, by decide +kernel⟩, List.mem_of_getElem? (i := 14) (by decide +kernel), List.mem_of_getElem? (i := 316) (by decide +kernel), List.mem_of_getElem? (i := 317) (by decide +kernel)⟩
theorem lw_p4 : lw_okq (⟨"OneLeg$Changes", "dropOldest", "()V"⟩, 6) := ⟨⟨by decide +kernel, by decide +kernel⟩, List.mem_of_getElem? (i := 163) (by decide +kernel), List.mem_of_getElem? (i := 324) (by decide +kernel), List.mem_of_getElem? (i := 325) (by decide +kernel)⟩
theorem lw_p5 : lw_okq (⟨"OneLeg", "become", "(III)V"⟩, 11) := ⟨⟨by decide +kernel, by decide +kernel⟩, List.mem_of_getElem? (i := 14) (by decide +kernel), List.mem_of_getElem? (i := 331) (by decide +kernel), List.mem_of_getElem? (i := 332) (by decide +kernel)⟩
theorem lw_p6 : lw_okq (⟨"OneLeg$Law", "readLines", "()Z"⟩, 8) := ⟨⟨by decide +kernel, by decide +kernel⟩, List.mem_of_getElem? (i := 28) (by decide +kernel), List.mem_of_getElem? (i := 355) (by decide +kernel), List.mem_of_getElem? (i := 356) (by decide +kernel)⟩
theorem lw_p7 : lw_okq (⟨"OneLeg$Law", "readLine", "()Z"⟩, 8) := ⟨⟨by decide +kernel, by decide +kernel⟩, List.mem_of_getElem? (i := 28) (by decide +kernel), List.mem_of_getElem? (i := 359) (by decide +kernel), List.mem_of_getElem? (i := 360) (by decide +kernel)⟩
theorem lw_p8 : lw_okq (⟨"OneLeg$Law", "readChain", "(II)Z"⟩, 8) := ⟨⟨by decide +kernel, by decide +kernel⟩, List.mem_of_getElem? (i := 28) (by decide +kernel), List.mem_of_getElem? (i := 363) (by decide +kernel), List.mem_of_getElem? (i := 364) (by decide +kernel)⟩
theorem lw_p9 : lw_okq (⟨"OneLeg$Law", "readOperand", "(I)Z"⟩, 8) := ⟨⟨by decide +kernel, by decide +kernel⟩, List.mem_of_getElem? (i := 28) (by decide +kernel), List.mem_of_getElem? (i := 367) (by decide +kernel), List.mem_of_getElem? (i := 368) (by decide +kernel)⟩
theorem lw_p10 : lw_okq (⟨"OneLeg$Law", "sign", "()I"⟩, 8) := ⟨⟨by decide +kernel, by decide +kernel⟩, List.mem_of_getElem? (i := 28) (by decide +kernel), List.mem_of_getElem? (i := 371) (by decide +kernel), List.mem_of_getElem? (i := 372) (by decide +kernel)⟩
theorem lw_p11 : lw_okq (⟨"OneLeg$Law", "readNumber", "()V"⟩, 8) := ⟨⟨by decide +kernel, by decide +kernel⟩, List.mem_of_getElem? (i := 28) (by decide +kernel), List.mem_of_getElem? (i := 378) (by decide +kernel), List.mem_of_getElem? (i := 379) (by decide +kernel)⟩
theorem lw_p12 : lw_okq (⟨"OneLeg$Law", "addStep", "(I)V"⟩, 8) := ⟨⟨by decide +kernel, by decide +kernel⟩, List.mem_of_getElem? (i := 28) (by decide +kernel), List.mem_of_getElem? (i := 382) (by decide +kernel), List.mem_of_getElem? (i := 383) (by decide +kernel)⟩
theorem lw_p13 : lw_okq (⟨"OneLeg$Law", "isAccepted", "(I)Z"⟩, 8) := ⟨⟨by decide +kernel, by decide +kernel⟩, List.mem_of_getElem? (i := 28) (by decide +kernel), List.mem_of_getElem? (i := 389) (by decide +kernel), List.mem_of_getElem? (i := 390) (by decide +kernel)⟩
theorem lw_p14 : lw_okq (⟨"OneLeg$Law", "endOfLine", "(I)I"⟩, 8) := ⟨⟨by decide +kernel, by decide +kernel⟩, List.mem_of_getElem? (i := 28) (by decide +kernel), List.mem_of_getElem? (i := 419) (by decide +kernel), List.mem_of_getElem? (i := 420) (by decide +kernel)⟩
theorem lw_p15 : lw_okq (⟨"OneLeg$Thought", "seekFrom", "(III)V"⟩, 10) := ⟨⟨by decide +kernel, by decide +kernel⟩, List.mem_of_getElem? (i := 119) (by decide +kernel), List.mem_of_getElem? (i := 491) (by decide +kernel), List.mem_of_getElem? (i := 492) (by decide +kernel)⟩
def lw_privs_1 : List (MethodName × Nat) := [(⟨"OneLeg", "welcome", "(III)I"⟩, 11), (⟨"OneLeg", "comesFrom", "(LOneLeg$Shelf;I)Z"⟩, 11), (⟨"OneLeg", "isNumber", "(II)Z"⟩, 11), (⟨"OneLeg", "numberOf", "(II)I"⟩, 11), (⟨"OneLeg$Changes", "dropOldest", "()V"⟩, 6), (⟨"OneLeg", "become", "(III)V"⟩, 11), (⟨"OneLeg$Law", "readLines", "()Z"⟩, 8), (⟨"OneLeg$Law", "readLine", "()Z"⟩, 8), (⟨"OneLeg$Law", "readChain", "(II)Z"⟩, 8), (⟨"OneLeg$Law", "readOperand", "(I)Z"⟩, 8), (⟨"OneLeg$Law", "sign", "()I"⟩, 8), (⟨"OneLeg$Law", "readNumber", "()V"⟩, 8), (⟨"OneLeg$Law", "addStep", "(I)V"⟩, 8), (⟨"OneLeg$Law", "isAccepted", "(I)Z"⟩, 8), (⟨"OneLeg$Law", "endOfLine", "(I)I"⟩, 8), (⟨"OneLeg$Thought", "seekFrom", "(III)V"⟩, 10)]
theorem lw_r1 : ∀ q ∈ lw_privs_1, lw_okq q := List.forall_mem_cons.mpr ⟨lw_p0, List.forall_mem_cons.mpr ⟨lw_p1, List.forall_mem_cons.mpr ⟨lw_p2, List.forall_mem_cons.mpr ⟨lw_p3, List.forall_mem_cons.mpr ⟨lw_p4, List.forall_mem_cons.mpr ⟨lw_p5, List.forall_mem_cons.mpr ⟨lw_p6, List.forall_mem_cons.mpr ⟨lw_p7, List.forall_mem_cons.mpr ⟨lw_p8, List.forall_mem_cons.mpr ⟨lw_p9, List.forall_mem_cons.mpr ⟨lw_p10, List.forall_mem_cons.mpr ⟨lw_p11, List.forall_mem_cons.mpr ⟨lw_p12, List.forall_mem_cons.mpr ⟨lw_p13, List.forall_mem_cons.mpr ⟨lw_p14, List.forall_mem_cons.mpr ⟨lw_p15, fun _ h => absurd h List.not_mem_nil⟩⟩⟩⟩⟩⟩⟩⟩⟩⟩⟩⟩⟩⟩⟩⟩
theorem lw_p16 : lw_okq (⟨"OneLeg$Thought", "weigh", "(II)V"⟩, 10) := ⟨⟨by decide +kernel, by decide +kernel⟩, List.mem_of_getElem? (i := 119) (by decide +kernel), List.mem_of_getElem? (i := 495) (by decide +kernel), List.mem_of_getElem? (i := 496) (by decide +kernel)⟩
theorem lw_p17 : lw_okq (⟨"OneLeg", "knownByGroup", "(I)I"⟩, 11) := ⟨⟨by decide +kernel, by decide +kernel⟩, List.mem_of_getElem? (i := 14) (by decide +kernel), List.mem_of_getElem? (i := 505) (by decide +kernel), List.mem_of_getElem? (i := 506) (by decide +kernel)⟩
theorem lw_p18 : lw_okq (⟨"OneLeg", "fewestApart", "()I"⟩, 11) := ⟨⟨by decide +kernel, by decide +kernel⟩, List.mem_of_getElem? (i := 14) (by decide +kernel), List.mem_of_getElem? (i := 520) (by decide +kernel), List.mem_of_getElem? (i := 521) (by decide +kernel)⟩
theorem lw_p19 : lw_okq (⟨"OneLeg", "areToldApart", "(I)Z"⟩, 11) := ⟨⟨by decide +kernel, by decide +kernel⟩, List.mem_of_getElem? (i := 14) (by decide +kernel), List.mem_of_getElem? (i := 524) (by decide +kernel), List.mem_of_getElem? (i := 525) (by decide +kernel)⟩
theorem lw_p20 : lw_okq (⟨"OneLeg", "knownByAll", "()I"⟩, 11) := ⟨⟨by decide +kernel, by decide +kernel⟩, List.mem_of_getElem? (i := 14) (by decide +kernel), List.mem_of_getElem? (i := 528) (by decide +kernel), List.mem_of_getElem? (i := 529) (by decide +kernel)⟩
theorem lw_p21 : lw_okq (⟨"OneLeg$Thought", "holderOf", "(II)I"⟩, 10) := ⟨⟨by decide +kernel, by decide +kernel⟩, List.mem_of_getElem? (i := 119) (by decide +kernel), List.mem_of_getElem? (i := 540) (by decide +kernel), List.mem_of_getElem? (i := 541) (by decide +kernel)⟩
theorem lw_p22 : lw_okq (⟨"OneLeg$Thought", "dealtBy", "(III)I"⟩, 10) := ⟨⟨by decide +kernel, by decide +kernel⟩, List.mem_of_getElem? (i := 119) (by decide +kernel), List.mem_of_getElem? (i := 544) (by decide +kernel), List.mem_of_getElem? (i := 545) (by decide +kernel)⟩
theorem lw_p23 : lw_okq (⟨"OneLeg$Thought", "sortBySlow", "()V"⟩, 10) := ⟨⟨by decide +kernel, by decide +kernel⟩, List.mem_of_getElem? (i := 119) (by decide +kernel), List.mem_of_getElem? (i := 559) (by decide +kernel), List.mem_of_getElem? (i := 560) (by decide +kernel)⟩
theorem lw_p24 : lw_okq (⟨"OneLeg", "firstOut", "()I"⟩, 11) := ⟨⟨by decide +kernel, by decide +kernel⟩, List.mem_of_getElem? (i := 14) (by decide +kernel), List.mem_of_getElem? (i := 563) (by decide +kernel), List.mem_of_getElem? (i := 564) (by decide +kernel)⟩
theorem lw_p25 : lw_okq (⟨"OneLeg", "areShelves", "(I)Z"⟩, 11) := ⟨⟨by decide +kernel, by decide +kernel⟩, List.mem_of_getElem? (i := 14) (by decide +kernel), List.mem_of_getElem? (i := 572) (by decide +kernel), List.mem_of_getElem? (i := 573) (by decide +kernel)⟩
theorem lw_p26 : lw_okq (⟨"OneLeg", "refusalOfDebts", "(I)I"⟩, 11) := ⟨⟨by decide +kernel, by decide +kernel⟩, List.mem_of_getElem? (i := 14) (by decide +kernel), List.mem_of_getElem? (i := 576) (by decide +kernel), List.mem_of_getElem? (i := 577) (by decide +kernel)⟩
theorem lw_p27 : lw_okq (⟨"OneLeg", "firstNotSo", "(IIII)I"⟩, 11) := ⟨⟨by decide +kernel, by decide +kernel⟩, List.mem_of_getElem? (i := 14) (by decide +kernel), List.mem_of_getElem? (i := 580) (by decide +kernel), List.mem_of_getElem? (i := 581) (by decide +kernel)⟩
theorem lw_p28 : lw_okq (⟨"OneLeg", "areBrothers", "(I)Z"⟩, 11) := ⟨⟨by decide +kernel, by decide +kernel⟩, List.mem_of_getElem? (i := 14) (by decide +kernel), List.mem_of_getElem? (i := 588) (by decide +kernel), List.mem_of_getElem? (i := 589) (by decide +kernel)⟩
theorem lw_p29 : lw_okq (⟨"OneLeg$Thought", "worthFrom", "(IIII)I"⟩, 10) := ⟨⟨by decide +kernel, by decide +kernel⟩, List.mem_of_getElem? (i := 119) (by decide +kernel), List.mem_of_getElem? (i := 601) (by decide +kernel), List.mem_of_getElem? (i := 602) (by decide +kernel)⟩
theorem lw_p30 : lw_okq (⟨"OneLeg$Thought", "worthBehind", "(IIIII)I"⟩, 10) := ⟨⟨by decide +kernel, by decide +kernel⟩, List.mem_of_getElem? (i := 119) (by decide +kernel), List.mem_of_getElem? (i := 605) (by decide +kernel), List.mem_of_getElem? (i := 606) (by decide +kernel)⟩
theorem lw_p31 : lw_okq (⟨"OneLeg$Thought", "drawnBy", "(II)I"⟩, 10) := ⟨⟨by decide +kernel, by decide +kernel⟩, List.mem_of_getElem? (i := 119) (by decide +kernel), List.mem_of_getElem? (i := 619) (by decide +kernel), List.mem_of_getElem? (i := 620) (by decide +kernel)⟩
def lw_privs_2 : List (MethodName × Nat) := [(⟨"OneLeg$Thought", "weigh", "(II)V"⟩, 10), (⟨"OneLeg", "knownByGroup", "(I)I"⟩, 11), (⟨"OneLeg", "fewestApart", "()I"⟩, 11), (⟨"OneLeg", "areToldApart", "(I)Z"⟩, 11), (⟨"OneLeg", "knownByAll", "()I"⟩, 11), (⟨"OneLeg$Thought", "holderOf", "(II)I"⟩, 10), (⟨"OneLeg$Thought", "dealtBy", "(III)I"⟩, 10), (⟨"OneLeg$Thought", "sortBySlow", "()V"⟩, 10), (⟨"OneLeg", "firstOut", "()I"⟩, 11), (⟨"OneLeg", "areShelves", "(I)Z"⟩, 11), (⟨"OneLeg", "refusalOfDebts", "(I)I"⟩, 11), (⟨"OneLeg", "firstNotSo", "(IIII)I"⟩, 11), (⟨"OneLeg", "areBrothers", "(I)Z"⟩, 11), (⟨"OneLeg$Thought", "worthFrom", "(IIII)I"⟩, 10), (⟨"OneLeg$Thought", "worthBehind", "(IIIII)I"⟩, 10), (⟨"OneLeg$Thought", "drawnBy", "(II)I"⟩, 10)]
theorem lw_r2 : ∀ q ∈ lw_privs_2, lw_okq q := List.forall_mem_cons.mpr ⟨lw_p16, List.forall_mem_cons.mpr ⟨lw_p17, List.forall_mem_cons.mpr ⟨lw_p18, List.forall_mem_cons.mpr ⟨lw_p19, List.forall_mem_cons.mpr ⟨lw_p20, List.forall_mem_cons.mpr ⟨lw_p21, List.forall_mem_cons.mpr ⟨lw_p22, List.forall_mem_cons.mpr ⟨lw_p23, List.forall_mem_cons.mpr ⟨lw_p24, List.forall_mem_cons.mpr ⟨lw_p25, List.forall_mem_cons.mpr ⟨lw_p26, List.forall_mem_cons.mpr ⟨lw_p27, List.forall_mem_cons.mpr ⟨lw_p28, List.forall_mem_cons.mpr ⟨lw_p29, List.forall_mem_cons.mpr ⟨lw_p30, List.forall_mem_cons.mpr ⟨lw_p31, fun _ h => absurd h List.not_mem_nil⟩⟩⟩⟩⟩⟩⟩⟩⟩⟩⟩⟩⟩⟩⟩⟩
theorem lw_p32 : lw_okq (⟨"OneLeg", "areTwo", "(II)Z"⟩, 11) := ⟨⟨by decide +kernel, by decide +kernel⟩, List.mem_of_getElem? (i := 14) (by decide +kernel), List.mem_of_getElem? (i := 633) (by decide +kernel), List.mem_of_getElem? (i := 634) (by decide +kernel)⟩
theorem lw_p33 : lw_okq (⟨"OneLeg", "isBody", "(I)Z"⟩, 11) := ⟨⟨by decide +kernel, by decide +kernel⟩, List.mem_of_getElem? (i := 14) (by decide +kernel), List.mem_of_getElem? (i := 679) (by decide +kernel), List.mem_of_getElem? (i := 680) (by decide +kernel)⟩
theorem lw_p34 : lw_okq (⟨"OneLeg$Boots", "note", "(I)V"⟩, 4) := ⟨⟨by decide +kernel, by decide +kernel⟩, List.mem_of_getElem? (i := 194) (by decide +kernel), List.mem_of_getElem? (i := 691) (by decide +kernel), List.mem_of_getElem? (i := 692) (by decide +kernel)⟩
theorem lw_p35 : lw_okq (⟨"OneLeg$Boots", "own", "(IIII)I"⟩, 4) := ⟨⟨by decide +kernel, by decide +kernel⟩, List.mem_of_getElem? (i := 194) (by decide +kernel), List.mem_of_getElem? (i := 695) (by decide +kernel), List.mem_of_getElem? (i := 696) (by decide +kernel)⟩
theorem lw_p36 : lw_okq (⟨"OneLeg", "refusalOfPlace", "(II)I"⟩, 11) := ⟨⟨by decide +kernel, by decide +kernel⟩, List.mem_of_getElem? (i := 14) (by decide +kernel), List.mem_of_getElem? (i := 720) (by decide +kernel), List.mem_of_getElem? (i := 721) (by decide +kernel)⟩
theorem lw_p37 : lw_okq (⟨"OneLegModel", "newOne", "(III)I"⟩, 43) := ⟨⟨by decide +kernel, by decide +kernel⟩, List.mem_of_getElem? (i := 752) (by decide +kernel), List.mem_of_getElem? (i := 895) (by decide +kernel), List.mem_of_getElem? (i := 896) (by decide +kernel)⟩
theorem lw_p38 : lw_okq (⟨"OneLegModel", "toldAt", "(II)I"⟩, 43) := ⟨⟨by decide +kernel, by decide +kernel⟩, List.mem_of_getElem? (i := 752) (by decide +kernel), List.mem_of_getElem? (i := 907) (by decide +kernel), List.mem_of_getElem? (i := 908) (by decide +kernel)⟩
theorem lw_p39 : lw_okq (⟨"OneLegModel", "isOf", "(II)Z"⟩, 43) := ⟨⟨by decide +kernel, by decide +kernel⟩, List.mem_of_getElem? (i := 752) (by decide +kernel), List.mem_of_getElem? (i := 915) (by decide +kernel), List.mem_of_getElem? (i := 916) (by decide +kernel)⟩
theorem lw_p40 : lw_okq (⟨"OneLegModel", "isOne", "(I)Z"⟩, 43) := ⟨⟨by decide +kernel, by decide +kernel⟩, List.mem_of_getElem? (i := 752) (by decide +kernel), List.mem_of_getElem? (i := 919) (by decide +kernel), List.mem_of_getElem? (i := 920) (by decide +kernel)⟩
theorem lw_p41 : lw_okq (⟨"OneLegModel", "get", "(II)I"⟩, 43) := ⟨⟨by decide +kernel, by decide +kernel⟩, List.mem_of_getElem? (i := 752) (by decide +kernel), List.mem_of_getElem? (i := 926) (by decide +kernel), List.mem_of_getElem? (i := 927) (by decide +kernel)⟩
theorem lw_p42 : lw_okq (⟨"OneLegModel", "becomes", "(III)V"⟩, 43) := ⟨⟨by decide +kernel, by decide +kernel⟩, List.mem_of_getElem? (i := 752) (by decide +kernel), List.mem_of_getElem? (i := 930) (by decide +kernel), List.mem_of_getElem? (i := 931) (by decide +kernel)⟩
theorem lw_p43 : lw_okq (⟨"OneLegModel", "isLine", "()Z"⟩, 43) := ⟨⟨by decide +kernel, by decide +kernel⟩, List.mem_of_getElem? (i := 752) (by decide +kernel), List.mem_of_getElem? (i := 954) (by decide +kernel), List.mem_of_getElem? (i := 955) (by decide +kernel)⟩
theorem lw_p44 : lw_okq (⟨"OneLegModel", "isE", "()Z"⟩, 43) := ⟨⟨by decide +kernel, by decide +kernel⟩, List.mem_of_getElem? (i := 752) (by decide +kernel), List.mem_of_getElem? (i := 958) (by decide +kernel), List.mem_of_getElem? (i := 959) (by decide +kernel)⟩
theorem lw_p45 : lw_okq (⟨"OneLegModel", "isA", "()Z"⟩, 43) := ⟨⟨by decide +kernel, by decide +kernel⟩, List.mem_of_getElem? (i := 752) (by decide +kernel), List.mem_of_getElem? (i := 962) (by decide +kernel), List.mem_of_getElem? (i := 963) (by decide +kernel)⟩
theorem lw_p46 : lw_okq (⟨"OneLegModel", "isB", "()Z"⟩, 43) := ⟨⟨by decide +kernel, by decide +kernel⟩, List.mem_of_getElem? (i := 752) (by decide +kernel), List.mem_of_getElem? (i := 966) (by decide +kernel), List.mem_of_getElem? (i := 967) (by decide +kernel)⟩
theorem lw_p47 : lw_okq (⟨"OneLegModel", "isS", "()Z"⟩, 43) := ⟨⟨by decide +kernel, by decide +kernel⟩, List.mem_of_getElem? (i := 752) (by decide +kernel), List.mem_of_getElem? (i := 970) (by decide +kernel), List.mem_of_getElem? (i := 971) (by decide +kernel)⟩
def lw_privs_3 : List (MethodName × Nat) := [(⟨"OneLeg", "areTwo", "(II)Z"⟩, 11), (⟨"OneLeg", "isBody", "(I)Z"⟩, 11), (⟨"OneLeg$Boots", "note", "(I)V"⟩, 4), (⟨"OneLeg$Boots", "own", "(IIII)I"⟩, 4), (⟨"OneLeg", "refusalOfPlace", "(II)I"⟩, 11), (⟨"OneLegModel", "newOne", "(III)I"⟩, 43), (⟨"OneLegModel", "toldAt", "(II)I"⟩, 43), (⟨"OneLegModel", "isOf", "(II)Z"⟩, 43), (⟨"OneLegModel", "isOne", "(I)Z"⟩, 43), (⟨"OneLegModel", "get", "(II)I"⟩, 43), (⟨"OneLegModel", "becomes", "(III)V"⟩, 43), (⟨"OneLegModel", "isLine", "()Z"⟩, 43), (⟨"OneLegModel", "isE", "()Z"⟩, 43), (⟨"OneLegModel", "isA", "()Z"⟩, 43), (⟨"OneLegModel", "isB", "()Z"⟩, 43), (⟨"OneLegModel", "isS", "()Z"⟩, 43)]
theorem lw_r3 : ∀ q ∈ lw_privs_3, lw_okq q := List.forall_mem_cons.mpr ⟨lw_p32, List.forall_mem_cons.mpr ⟨lw_p33, List.forall_mem_cons.mpr ⟨lw_p34, List.forall_mem_cons.mpr ⟨lw_p35, List.forall_mem_cons.mpr ⟨lw_p36, List.forall_mem_cons.mpr ⟨lw_p37, List.forall_mem_cons.mpr ⟨lw_p38, List.forall_mem_cons.mpr ⟨lw_p39, List.forall_mem_cons.mpr ⟨lw_p40, List.forall_mem_cons.mpr ⟨lw_p41, List.forall_mem_cons.mpr ⟨lw_p42, List.forall_mem_cons.mpr ⟨lw_p43, List.forall_mem_cons.mpr ⟨lw_p44, List.forall_mem_cons.mpr ⟨lw_p45, List.forall_mem_cons.mpr ⟨lw_p46, List.forall_mem_cons.mpr ⟨lw_p47, fun _ h => absurd h List.not_mem_nil⟩⟩⟩⟩⟩⟩⟩⟩⟩⟩⟩⟩⟩⟩⟩⟩
theorem lw_p48 : lw_okq (⟨"OneLegModel", "isP", "()Z"⟩, 43) := ⟨⟨by decide +kernel, by decide +kernel⟩, List.mem_of_getElem? (i := 752) (by decide +kernel), List.mem_of_getElem? (i := 974) (by decide +kernel), List.mem_of_getElem? (i := 975) (by decide +kernel)⟩
theorem lw_p49 : lw_okq (⟨"OneLegModel", "isO", "()Z"⟩, 43) := ⟨⟨by decide +kernel, by decide +kernel⟩, List.mem_of_getElem? (i := 752) (by decide +kernel), List.mem_of_getElem? (i := 978) (by decide +kernel), List.mem_of_getElem? (i := 979) (by decide +kernel)⟩
theorem lw_p50 : lw_okq (⟨"OneLegModel", "isDigit", "()Z"⟩, 43) := ⟨⟨by decide +kernel, by decide +kernel⟩, List.mem_of_getElem? (i := 752) (by decide +kernel), List.mem_of_getElem? (i := 982) (by decide +kernel), List.mem_of_getElem? (i := 983) (by decide +kernel)⟩
theorem lw_p51 : lw_okq (⟨"OneLegModel", "sign", "()I"⟩, 43) := ⟨⟨by decide +kernel, by decide +kernel⟩, List.mem_of_getElem? (i := 752) (by decide +kernel), List.mem_of_getElem? (i := 986) (by decide +kernel), List.mem_of_getElem? (i := 987) (by decide +kernel)⟩
theorem lw_p52 : lw_okq (⟨"OneLegModel", "codes", "(I)Z"⟩, 43) := ⟨⟨by decide +kernel, by decide +kernel⟩, List.mem_of_getElem? (i := 752) (by decide +kernel), List.mem_of_getElem? (i := 990) (by decide +kernel), List.mem_of_getElem? (i := 991) (by decide +kernel)⟩
theorem lw_p53 : lw_okq (⟨"OneLegModel", "is", "(I)Z"⟩, 43) := ⟨⟨by decide +kernel, by decide +kernel⟩, List.mem_of_getElem? (i := 752) (by decide +kernel), List.mem_of_getElem? (i := 997) (by decide +kernel), List.mem_of_getElem? (i := 998) (by decide +kernel)⟩
theorem lw_p54 : lw_okq (⟨"OneLegModel", "doneBy", "(I)I"⟩, 43) := ⟨⟨by decide +kernel, by decide +kernel⟩, List.mem_of_getElem? (i := 752) (by decide +kernel), List.mem_of_getElem? (i := 1005) (by decide +kernel), List.mem_of_getElem? (i := 1006) (by decide +kernel)⟩
theorem lw_p55 : lw_okq (⟨"OneLegModel", "byLaw", "(I)I"⟩, 43) := ⟨⟨by decide +kernel, by decide +kernel⟩, List.mem_of_getElem? (i := 752) (by decide +kernel), List.mem_of_getElem? (i := 1009) (by decide +kernel), List.mem_of_getElem? (i := 1010) (by decide +kernel)⟩
theorem lw_p56 : lw_okq (⟨"OneLegModel", "wants", "(II)Z"⟩, 43) := ⟨⟨by decide +kernel, by decide +kernel⟩, List.mem_of_getElem? (i := 752) (by decide +kernel), List.mem_of_getElem? (i := 1013) (by decide +kernel), List.mem_of_getElem? (i := 1014) (by decide +kernel)⟩
theorem lw_p57 : lw_okq (⟨"OneLegModel", "worked", "(II)I"⟩, 43) := ⟨⟨by decide +kernel, by decide +kernel⟩, List.mem_of_getElem? (i := 752) (by decide +kernel), List.mem_of_getElem? (i := 1021) (by decide +kernel), List.mem_of_getElem? (i := 1022) (by decide +kernel)⟩
theorem lw_p58 : lw_okq (⟨"OneLegModel", "noBytes", "(I)I"⟩, 43) := ⟨⟨by decide +kernel, by decide +kernel⟩, List.mem_of_getElem? (i := 752) (by decide +kernel), List.mem_of_getElem? (i := 1034) (by decide +kernel), List.mem_of_getElem? (i := 1035) (by decide +kernel)⟩
theorem lw_p59 : lw_okq (⟨"OneLegModel", "keeps", "([I)V"⟩, 43) := ⟨⟨by decide +kernel, by decide +kernel⟩, List.mem_of_getElem? (i := 752) (by decide +kernel), List.mem_of_getElem? (i := 1038) (by decide +kernel), List.mem_of_getElem? (i := 1039) (by decide +kernel)⟩
theorem lw_p60 : lw_okq (⟨"OneLegModel", "goes", "(II)I"⟩, 43) := ⟨⟨by decide +kernel, by decide +kernel⟩, List.mem_of_getElem? (i := 752) (by decide +kernel), List.mem_of_getElem? (i := 1042) (by decide +kernel), List.mem_of_getElem? (i := 1043) (by decide +kernel)⟩
theorem lw_p61 : lw_okq (⟨"OneLegModel", "daysOf", "(I)I"⟩, 43) := ⟨⟨by decide +kernel, by decide +kernel⟩, List.mem_of_getElem? (i := 752) (by decide +kernel), List.mem_of_getElem? (i := 1046) (by decide +kernel), List.mem_of_getElem? (i := 1047) (by decide +kernel)⟩
theorem lw_p62 : lw_okq (⟨"OneLegModel", "passes", "(I)I"⟩, 43) := ⟨⟨by decide +kernel, by decide +kernel⟩, List.mem_of_getElem? (i := 752) (by decide +kernel), List.mem_of_getElem? (i := 1050) (by decide +kernel), List.mem_of_getElem? (i := 1051) (by decide +kernel)⟩
theorem lw_p63 : lw_okq (⟨"OneLegModel", "allOwed", "()I"⟩, 43) := ⟨⟨by decide +kernel, by decide +kernel⟩, List.mem_of_getElem? (i := 752) (by decide +kernel), List.mem_of_getElem? (i := 1054) (by decide +kernel), List.mem_of_getElem? (i := 1055) (by decide +kernel)⟩
def lw_privs_4 : List (MethodName × Nat) := [(⟨"OneLegModel", "isP", "()Z"⟩, 43), (⟨"OneLegModel", "isO", "()Z"⟩, 43), (⟨"OneLegModel", "isDigit", "()Z"⟩, 43), (⟨"OneLegModel", "sign", "()I"⟩, 43), (⟨"OneLegModel", "codes", "(I)Z"⟩, 43), (⟨"OneLegModel", "is", "(I)Z"⟩, 43), (⟨"OneLegModel", "doneBy", "(I)I"⟩, 43), (⟨"OneLegModel", "byLaw", "(I)I"⟩, 43), (⟨"OneLegModel", "wants", "(II)Z"⟩, 43), (⟨"OneLegModel", "worked", "(II)I"⟩, 43), (⟨"OneLegModel", "noBytes", "(I)I"⟩, 43), (⟨"OneLegModel", "keeps", "([I)V"⟩, 43), (⟨"OneLegModel", "goes", "(II)I"⟩, 43), (⟨"OneLegModel", "daysOf", "(I)I"⟩, 43), (⟨"OneLegModel", "passes", "(I)I"⟩, 43), (⟨"OneLegModel", "allOwed", "()I"⟩, 43)]
theorem lw_r4 : ∀ q ∈ lw_privs_4, lw_okq q := List.forall_mem_cons.mpr ⟨lw_p48, List.forall_mem_cons.mpr ⟨lw_p49, List.forall_mem_cons.mpr ⟨lw_p50, List.forall_mem_cons.mpr ⟨lw_p51, List.forall_mem_cons.mpr ⟨lw_p52, List.forall_mem_cons.mpr ⟨lw_p53, List.forall_mem_cons.mpr ⟨lw_p54, List.forall_mem_cons.mpr ⟨lw_p55, List.forall_mem_cons.mpr ⟨lw_p56, List.forall_mem_cons.mpr ⟨lw_p57, List.forall_mem_cons.mpr ⟨lw_p58, List.forall_mem_cons.mpr ⟨lw_p59, List.forall_mem_cons.mpr ⟨lw_p60, List.forall_mem_cons.mpr ⟨lw_p61, List.forall_mem_cons.mpr ⟨lw_p62, List.forall_mem_cons.mpr ⟨lw_p63, fun _ h => absurd h List.not_mem_nil⟩⟩⟩⟩⟩⟩⟩⟩⟩⟩⟩⟩⟩⟩⟩⟩
theorem lw_p64 : lw_okq (⟨"OneLegModel", "laysBack", "([I)V"⟩, 43) := ⟨⟨by decide +kernel, by decide +kernel⟩, List.mem_of_getElem? (i := 752) (by decide +kernel), List.mem_of_getElem? (i := 1058) (by decide +kernel), List.mem_of_getElem? (i := 1059) (by decide +kernel)⟩
theorem lw_p65 : lw_okq (⟨"OneLegModel", "tries", "(II)V"⟩, 43) := ⟨⟨by decide +kernel, by decide +kernel⟩, List.mem_of_getElem? (i := 752) (by decide +kernel), List.mem_of_getElem? (i := 1070) (by decide +kernel), List.mem_of_getElem? (i := 1071) (by decide +kernel)⟩
theorem lw_p66 : lw_okq (⟨"OneLegModel", "knownBy", "(I)I"⟩, 43) := ⟨⟨by decide +kernel, by decide +kernel⟩, List.mem_of_getElem? (i := 752) (by decide +kernel), List.mem_of_getElem? (i := 1078) (by decide +kernel), List.mem_of_getElem? (i := 1079) (by decide +kernel)⟩
theorem lw_p67 : lw_okq (⟨"OneLegModel", "parts", "(I)Z"⟩, 43) := ⟨⟨by decide +kernel, by decide +kernel⟩, List.mem_of_getElem? (i := 752) (by decide +kernel), List.mem_of_getElem? (i := 1086) (by decide +kernel), List.mem_of_getElem? (i := 1087) (by decide +kernel)⟩
theorem lw_p68 : lw_okq (⟨"OneLegModel", "deals", "(III)V"⟩, 43) := ⟨⟨by decide +kernel, by decide +kernel⟩, List.mem_of_getElem? (i := 752) (by decide +kernel), List.mem_of_getElem? (i := 1094) (by decide +kernel), List.mem_of_getElem? (i := 1095) (by decide +kernel)⟩
theorem lw_p69 : lw_okq (⟨"OneLegModel", "burns", "()V"⟩, 43) := ⟨⟨by decide +kernel, by decide +kernel⟩, List.mem_of_getElem? (i := 752) (by decide +kernel), List.mem_of_getElem? (i := 1102) (by decide +kernel), List.mem_of_getElem? (i := 1103) (by decide +kernel)⟩
theorem lw_p70 : lw_okq (⟨"OneLegModel", "goOut", "(III)I"⟩, 43) := ⟨⟨by decide +kernel, by decide +kernel⟩, List.mem_of_getElem? (i := 752) (by decide +kernel), List.mem_of_getElem? (i := 1106) (by decide +kernel), List.mem_of_getElem? (i := 1107) (by decide +kernel)⟩
theorem lw_p71 : lw_okq (⟨"OneLegModel", "slow", "(I)I"⟩, 43) := ⟨⟨by decide +kernel, by decide +kernel⟩, List.mem_of_getElem? (i := 752) (by decide +kernel), List.mem_of_getElem? (i := 1110) (by decide +kernel), List.mem_of_getElem? (i := 1111) (by decide +kernel)⟩
theorem lw_p72 : lw_okq (⟨"OneLegModel", "noDebts", "(I)I"⟩, 43) := ⟨⟨by decide +kernel, by decide +kernel⟩, List.mem_of_getElem? (i := 752) (by decide +kernel), List.mem_of_getElem? (i := 1118) (by decide +kernel), List.mem_of_getElem? (i := 1119) (by decide +kernel)⟩
theorem lw_p73 : lw_okq (⟨"OneLegModel", "unlike", "(II)I"⟩, 43) := ⟨⟨by decide +kernel, by decide +kernel⟩, List.mem_of_getElem? (i := 752) (by decide +kernel), List.mem_of_getElem? (i := 1122) (by decide +kernel), List.mem_of_getElem? (i := 1123) (by decide +kernel)⟩
theorem lw_p74 : lw_okq (⟨"OneLegModel", "turnBy", "(IIIZ)I"⟩, 43) := ⟨⟨by decide +kernel, by decide +kernel⟩, List.mem_of_getElem? (i := 752) (by decide +kernel), List.mem_of_getElem? (i := 1135) (by decide +kernel), List.mem_of_getElem? (i := 1136) (by decide +kernel)⟩
theorem lw_p75 : lw_okq (⟨"OneLegModel", "turnFrom", "(III)I"⟩, 43) := ⟨⟨by decide +kernel, by decide +kernel⟩, List.mem_of_getElem? (i := 752) (by decide +kernel), List.mem_of_getElem? (i := 1139) (by decide +kernel), List.mem_of_getElem? (i := 1140) (by decide +kernel)⟩
theorem lw_p76 : lw_okq (⟨"OneLegModel", "walksBy", "(III)I"⟩, 43) := ⟨⟨by decide +kernel, by decide +kernel⟩, List.mem_of_getElem? (i := 752) (by decide +kernel), List.mem_of_getElem? (i := 1185) (by decide +kernel), List.mem_of_getElem? (i := 1186) (by decide +kernel)⟩
theorem lw_p77 : lw_okq (⟨"OneLegModel", "ran", "(I)V"⟩, 43) := ⟨⟨by decide +kernel, by decide +kernel⟩, List.mem_of_getElem? (i := 752) (by decide +kernel), List.mem_of_getElem? (i := 1189) (by decide +kernel), List.mem_of_getElem? (i := 1190) (by decide +kernel)⟩
theorem lw_p78 : lw_okq (⟨"OneLegModel", "leansBy", "(III)I"⟩, 43) := ⟨⟨by decide +kernel, by decide +kernel⟩, List.mem_of_getElem? (i := 752) (by decide +kernel), List.mem_of_getElem? (i := 1196) (by decide +kernel), List.mem_of_getElem? (i := 1197) (by decide +kernel)⟩
theorem lw_p79 : lw_okq (⟨"OneLegModel", "owesBy", "(III)I"⟩, 43) := ⟨⟨by decide +kernel, by decide +kernel⟩, List.mem_of_getElem? (i := 752) (by decide +kernel), List.mem_of_getElem? (i := 1200) (by decide +kernel), List.mem_of_getElem? (i := 1201) (by decide +kernel)⟩
def lw_privs_5 : List (MethodName × Nat) := [(⟨"OneLegModel", "laysBack", "([I)V"⟩, 43), (⟨"OneLegModel", "tries", "(II)V"⟩, 43), (⟨"OneLegModel", "knownBy", "(I)I"⟩, 43), (⟨"OneLegModel", "parts", "(I)Z"⟩, 43), (⟨"OneLegModel", "deals", "(III)V"⟩, 43), (⟨"OneLegModel", "burns", "()V"⟩, 43), (⟨"OneLegModel", "goOut", "(III)I"⟩, 43), (⟨"OneLegModel", "slow", "(I)I"⟩, 43), (⟨"OneLegModel", "noDebts", "(I)I"⟩, 43), (⟨"OneLegModel", "unlike", "(II)I"⟩, 43), (⟨"OneLegModel", "turnBy", "(IIIZ)I"⟩, 43), (⟨"OneLegModel", "turnFrom", "(III)I"⟩, 43), (⟨"OneLegModel", "walksBy", "(III)I"⟩, 43), (⟨"OneLegModel", "ran", "(I)V"⟩, 43), (⟨"OneLegModel", "leansBy", "(III)I"⟩, 43), (⟨"OneLegModel", "owesBy", "(III)I"⟩, 43)]
theorem lw_r5 : ∀ q ∈ lw_privs_5, lw_okq q := List.forall_mem_cons.mpr ⟨lw_p64, List.forall_mem_cons.mpr ⟨lw_p65, List.forall_mem_cons.mpr ⟨lw_p66, List.forall_mem_cons.mpr ⟨lw_p67, List.forall_mem_cons.mpr ⟨lw_p68, List.forall_mem_cons.mpr ⟨lw_p69, List.forall_mem_cons.mpr ⟨lw_p70, List.forall_mem_cons.mpr ⟨lw_p71, List.forall_mem_cons.mpr ⟨lw_p72, List.forall_mem_cons.mpr ⟨lw_p73, List.forall_mem_cons.mpr ⟨lw_p74, List.forall_mem_cons.mpr ⟨lw_p75, List.forall_mem_cons.mpr ⟨lw_p76, List.forall_mem_cons.mpr ⟨lw_p77, List.forall_mem_cons.mpr ⟨lw_p78, List.forall_mem_cons.mpr ⟨lw_p79, fun _ h => absurd h List.not_mem_nil⟩⟩⟩⟩⟩⟩⟩⟩⟩⟩⟩⟩⟩⟩⟩⟩
theorem lw_p80 : lw_okq (⟨"OneLegModel", "tells", "(III)I"⟩, 43) := ⟨⟨by decide +kernel, by decide +kernel⟩, List.mem_of_getElem? (i := 752) (by decide +kernel), List.mem_of_getElem? (i := 1204) (by decide +kernel), List.mem_of_getElem? (i := 1205) (by decide +kernel)⟩
theorem lw_p81 : lw_okq (⟨"OneLegModel", "isRow", "(I)Z"⟩, 43) := ⟨⟨by decide +kernel, by decide +kernel⟩, List.mem_of_getElem? (i := 752) (by decide +kernel), List.mem_of_getElem? (i := 1224) (by decide +kernel), List.mem_of_getElem? (i := 1225) (by decide +kernel)⟩
def lw_privs_6 : List (MethodName × Nat) := [(⟨"OneLegModel", "tells", "(III)I"⟩, 43), (⟨"OneLegModel", "isRow", "(I)Z"⟩, 43)]
theorem lw_r6 : ∀ q ∈ lw_privs_6, lw_okq q := List.forall_mem_cons.mpr ⟨lw_p80, List.forall_mem_cons.mpr ⟨lw_p81, fun _ h => absurd h List.not_mem_nil⟩⟩
def lw_privs : List (MethodName × Nat) := lw_privs_1 ++ (lw_privs_2 ++ (lw_privs_3 ++ (lw_privs_4 ++ (lw_privs_5 ++ (lw_privs_6)))))
def lw_tbl : List Cond := k2_sels lw_privs ++ tables_1
theorem lw_privs_ok : ∀ q ∈ lw_privs, lw_okq q := by
  show ∀ q ∈ lw_privs_1 ++ (lw_privs_2 ++ (lw_privs_3 ++ (lw_privs_4 ++ (lw_privs_5 ++ (lw_privs_6))))), lw_okq q
  exact List.forall_mem_append.mpr ⟨lw_r1, List.forall_mem_append.mpr ⟨lw_r2, List.forall_mem_append.mpr ⟨lw_r3, List.forall_mem_append.mpr ⟨lw_r4, List.forall_mem_append.mpr ⟨lw_r5, lw_r6⟩⟩⟩⟩⟩

def RX0 : String := "OneLeg$Boots"
def TX0 : u_T := fun k => match k with
  | 0 => ("OneLeg$Boots", "kinds", "[I", true)
  | 1 => ("OneLeg$Boots", "size", "I", false)
  | 2 => ("OneLeg$Boots", "traced", "[I", true)
  | _ => ("OneLeg$Boots", "ran", "I", false)
def tyX0 : Nat → FieldType := fun k => match k with
  | 0 => .array .int
  | 1 => .int
  | 2 => .array .int
  | _ => .int
theorem nmX0 : ∀ a, a < 4 → ∀ b, b < 4 → a ≠ b → (TX0 a).2.1 ≠ (TX0 b).2.1 := by decide +kernel
theorem tyX0_ok : ∀ k, k < 4 → parseFieldDescriptor (TX0 k).2.2.1 = some (tyX0 k) := by decide +kernel
abbrev cX0_init : ByteArray := prog_2_method_1_code
def yX0_init : MethodName := ⟨RX0, "<init>", "()V"⟩
abbrev cX0_add : ByteArray := prog_2_method_2_code
def yX0_add : MethodName := ⟨RX0, "add", "(I)I"⟩
abbrev cX0_isUnder : ByteArray := prog_2_method_3_code
def yX0_isUnder : MethodName := ⟨RX0, "isUnder", "(II)Z"⟩
abbrev cX0_perform : ByteArray := prog_2_method_4_code
def yX0_perform : MethodName := ⟨RX0, "perform", "(IIIII)I"⟩
abbrev cX0_own : ByteArray := prog_2_method_5_code
def yX0_own : MethodName := ⟨RX0, "own", "(IIII)I"⟩
abbrev cX0_note : ByteArray := prog_2_method_6_code
def yX0_note : MethodName := ⟨RX0, "note", "(I)V"⟩
def RX1 : String := "OneLeg$Changes"
def TX1 : u_T := fun k => match k with
  | 0 => ("OneLeg$Changes", "numbers", "[I", true)
  | 1 => ("OneLeg$Changes", "whats", "[I", true)
  | 2 => ("OneLeg$Changes", "before", "[I", true)
  | 3 => ("OneLeg$Changes", "after", "[I", true)
  | 4 => ("OneLeg$Changes", "done", "I", false)
  | _ => ("OneLeg$Changes", "kept", "I", false)
def tyX1 : Nat → FieldType := fun k => match k with
  | 0 => .array .int
  | 1 => .array .int
  | 2 => .array .int
  | 3 => .array .int
  | 4 => .int
  | _ => .int
theorem nmX1 : ∀ a, a < 6 → ∀ b, b < 6 → a ≠ b → (TX1 a).2.1 ≠ (TX1 b).2.1 := by decide +kernel
theorem tyX1_ok : ∀ k, k < 6 → parseFieldDescriptor (TX1 k).2.2.1 = some (tyX1 k) := by decide +kernel
abbrev cX1_init : ByteArray := prog_3_method_1_code
def yX1_init : MethodName := ⟨RX1, "<init>", "()V"⟩
abbrev cX1_add : ByteArray := prog_3_method_2_code
def yX1_add : MethodName := ⟨RX1, "add", "(IIII)V"⟩
abbrev cX1_dropOldest : ByteArray := prog_3_method_3_code
def yX1_dropOldest : MethodName := ⟨RX1, "dropOldest", "()V"⟩
def RX2 : String := "OneLeg$House"
def TX2 : u_T := fun k => match k with
  | 0 => ("OneLeg$House", "size", "I", false)
  | 1 => ("OneLeg$House", "wants", "[I", true)
  | 2 => ("OneLeg$House", "slow", "[I", true)
  | 3 => ("OneLeg$House", "kinds", "[I", true)
  | 4 => ("OneLeg$House", "facts", "[I", true)
  | 5 => ("OneLeg$House", "law", "LOneLeg$Law;", true)
  | _ => ("OneLeg$House", "named", "[I", true)
def tyX2 : Nat → FieldType := fun k => match k with
  | 0 => .int
  | 1 => .array .int
  | 2 => .array .int
  | 3 => .array .int
  | 4 => .array .int
  | 5 => .object "OneLeg$Law"
  | _ => .array .int
theorem nmX2 : ∀ a, a < 7 → ∀ b, b < 7 → a ≠ b → (TX2 a).2.1 ≠ (TX2 b).2.1 := by decide +kernel
theorem tyX2_ok : ∀ k, k < 7 → parseFieldDescriptor (TX2 k).2.2.1 = some (tyX2 k) := by decide +kernel
abbrev cX2_init : ByteArray := prog_4_method_1_code
def yX2_init : MethodName := ⟨RX2, "<init>", "()V"⟩
abbrev cX2_isOne : ByteArray := prog_4_method_2_code
def yX2_isOne : MethodName := ⟨RX2, "isOne", "(I)Z"⟩
abbrev cX2_mayHave : ByteArray := prog_4_method_3_code
def yX2_mayHave : MethodName := ⟨RX2, "mayHave", "(J)Z"⟩
abbrev cX2_doneBy : ByteArray := prog_4_method_4_code
def yX2_doneBy : MethodName := ⟨RX2, "doneBy", "(LOneLeg$Standing;I)I"⟩
abbrev cX2_pass : ByteArray := prog_4_method_5_code
def yX2_pass : MethodName := ⟨RX2, "pass", "(LOneLeg$Standing;I)I"⟩
abbrev cX2_owedBehind : ByteArray := prog_4_method_6_code
def yX2_owedBehind : MethodName := ⟨RX2, "owedBehind", "(IIIII)I"⟩
abbrev cX2_daysOf : ByteArray := prog_4_method_7_code
def yX2_daysOf : MethodName := ⟨RX2, "daysOf", "(LOneLeg$Shelf;)I"⟩
def RX3 : String := "OneLeg$Law"
def TX3 : u_T := fun k => match k with
  | 0 => ("OneLeg$Law", "steps", "[I", true)
  | 1 => ("OneLeg$Law", "size", "I", false)
  | 2 => ("OneLeg$Law", "stack", "[I", true)
  | 3 => ("OneLeg$Law", "tape", "[I", true)
  | 4 => ("OneLeg$Law", "length", "I", false)
  | 5 => ("OneLeg$Law", "at", "I", false)
  | 6 => ("OneLeg$Law", "draft", "[I", true)
  | _ => ("OneLeg$Law", "drafted", "I", false)
def tyX3 : Nat → FieldType := fun k => match k with
  | 0 => .array .int
  | 1 => .int
  | 2 => .array .int
  | 3 => .array .int
  | 4 => .int
  | 5 => .int
  | 6 => .array .int
  | _ => .int
theorem nmX3 : ∀ a, a < 8 → ∀ b, b < 8 → a ≠ b → (TX3 a).2.1 ≠ (TX3 b).2.1 := by decide +kernel
theorem tyX3_ok : ∀ k, k < 8 → parseFieldDescriptor (TX3 k).2.2.1 = some (tyX3 k) := by decide +kernel
abbrev cX3_init : ByteArray := prog_5_method_1_code
def yX3_init : MethodName := ⟨RX3, "<init>", "()V"⟩
abbrev cX3_isWritten : ByteArray := prog_5_method_2_code
def yX3_isWritten : MethodName := ⟨RX3, "isWritten", "()Z"⟩
abbrev cX3_write : ByteArray := prog_5_method_3_code
def yX3_write : MethodName := ⟨RX3, "write", "(I)I"⟩
abbrev cX3_read : ByteArray := prog_5_method_4_code
def yX3_read : MethodName := ⟨RX3, "read", "()I"⟩
abbrev cX3_readLines : ByteArray := prog_5_method_5_code
def yX3_readLines : MethodName := ⟨RX3, "readLines", "()Z"⟩
abbrev cX3_readLine : ByteArray := prog_5_method_6_code
def yX3_readLine : MethodName := ⟨RX3, "readLine", "()Z"⟩
abbrev cX3_readChain : ByteArray := prog_5_method_7_code
def yX3_readChain : MethodName := ⟨RX3, "readChain", "(II)Z"⟩
abbrev cX3_readOperand : ByteArray := prog_5_method_8_code
def yX3_readOperand : MethodName := ⟨RX3, "readOperand", "(I)Z"⟩
abbrev cX3_readNumber : ByteArray := prog_5_method_9_code
def yX3_readNumber : MethodName := ⟨RX3, "readNumber", "()V"⟩
abbrev cX3_isAccepted : ByteArray := prog_5_method_10_code
def yX3_isAccepted : MethodName := ⟨RX3, "isAccepted", "(I)Z"⟩
abbrev cX3_sign : ByteArray := prog_5_method_11_code
def yX3_sign : MethodName := ⟨RX3, "sign", "()I"⟩
abbrev cX3_addStep : ByteArray := prog_5_method_12_code
def yX3_addStep : MethodName := ⟨RX3, "addStep", "(I)V"⟩
abbrev cX3_isDigit : ByteArray := prog_5_method_13_code
def yX3_isDigit : MethodName := ⟨RX3, "isDigit", "(I)Z"⟩
abbrev cX3_nameOf : ByteArray := prog_5_method_14_code
def yX3_nameOf : MethodName := ⟨RX3, "nameOf", "(I)I"⟩
abbrev cX3_levelOf : ByteArray := prog_5_method_15_code
def yX3_levelOf : MethodName := ⟨RX3, "levelOf", "(I)I"⟩
abbrev cX3_workOut : ByteArray := prog_5_method_16_code
def yX3_workOut : MethodName := ⟨RX3, "workOut", "([I)I"⟩
abbrev cX3_endOfLine : ByteArray := prog_5_method_17_code
def yX3_endOfLine : MethodName := ⟨RX3, "endOfLine", "(I)I"⟩
abbrev cX3_joined : ByteArray := prog_5_method_18_code
def yX3_joined : MethodName := ⟨RX3, "joined", "(III)I"⟩
def RX4 : String := "OneLeg$Shelf"
def TX4 : u_T := fun k => match k with
  | 0 => ("OneLeg$Shelf", "holds", "I", false)
  | 1 => ("OneLeg$Shelf", "boot", "I", false)
  | 2 => ("OneLeg$Shelf", "size", "I", false)
  | _ => ("OneLeg$Shelf", "elements", "[J", true)
def tyX4 : Nat → FieldType := fun k => match k with
  | 0 => .int
  | 1 => .int
  | 2 => .int
  | _ => .array .long
theorem nmX4 : ∀ a, a < 4 → ∀ b, b < 4 → a ≠ b → (TX4 a).2.1 ≠ (TX4 b).2.1 := by decide +kernel
theorem tyX4_ok : ∀ k, k < 4 → parseFieldDescriptor (TX4 k).2.2.1 = some (tyX4 k) := by decide +kernel
abbrev cX4_init : ByteArray := prog_6_method_1_code
def yX4_init : MethodName := ⟨RX4, "<init>", "()V"⟩
abbrev cX4_becomeRow : ByteArray := prog_6_method_2_code
def yX4_becomeRow : MethodName := ⟨RX4, "becomeRow", "(II)V"⟩
abbrev cX4_refusalFor : ByteArray := prog_6_method_3_code
def yX4_refusalFor : MethodName := ⟨RX4, "refusalFor", "(I)I"⟩
abbrev cX4_hasPlaces : ByteArray := prog_6_method_4_code
def yX4_hasPlaces : MethodName := ⟨RX4, "hasPlaces", "(II)Z"⟩
abbrev cX4_cut : ByteArray := prog_6_method_5_code
def yX4_cut : MethodName := ⟨RX4, "cut", "(J)J"⟩
def RX5 : String := "OneLeg$Standing"
def TX5 : u_T := fun k => match k with
  | 0 => ("OneLeg$Standing", "owed", "[I", true)
  | 1 => ("OneLeg$Standing", "knows", "[I", true)
  | 2 => ("OneLeg$Standing", "worn", "I", false)
  | _ => ("OneLeg$Standing", "today", "I", false)
def tyX5 : Nat → FieldType := fun k => match k with
  | 0 => .array .int
  | 1 => .array .int
  | 2 => .int
  | _ => .int
theorem nmX5 : ∀ a, a < 4 → ∀ b, b < 4 → a ≠ b → (TX5 a).2.1 ≠ (TX5 b).2.1 := by decide +kernel
theorem tyX5_ok : ∀ k, k < 4 → parseFieldDescriptor (TX5 k).2.2.1 = some (tyX5 k) := by decide +kernel
abbrev cX5_init : ByteArray := prog_7_method_1_code
def yX5_init : MethodName := ⟨RX5, "<init>", "()V"⟩
abbrev cX5_copyFrom : ByteArray := prog_7_method_2_code
def yX5_copyFrom : MethodName := ⟨RX5, "copyFrom", "(LOneLeg$Standing;I)V"⟩
abbrev cX5_owedOfAll : ByteArray := prog_7_method_3_code
def yX5_owedOfAll : MethodName := ⟨RX5, "owedOfAll", "(I)I"⟩
def RX6 : String := "OneLeg$Thought"
def TX6 : u_T := fun k => match k with
  | 0 => ("OneLeg$Thought", "bestDone", "I", false)
  | 1 => ("OneLeg$Thought", "bestOwed", "I", false)
  | 2 => ("OneLeg$Thought", "bestRota", "[I", true)
  | 3 => ("OneLeg$Thought", "isTakenFirst", "Z", false)
  | 4 => ("OneLeg$Thought", "house", "LOneLeg$House;", true)
  | 5 => ("OneLeg$Thought", "steps", "[LOneLeg$Standing;", true)
  | 6 => ("OneLeg$Thought", "rota", "[I", true)
  | 7 => ("OneLeg$Thought", "hasBest", "Z", false)
  | 8 => ("OneLeg$Thought", "mostDealt", "[I", true)
  | _ => ("OneLeg$Thought", "bySlow", "[I", true)
def tyX6 : Nat → FieldType := fun k => match k with
  | 0 => .int
  | 1 => .int
  | 2 => .array .int
  | 3 => .boolean
  | 4 => .object "OneLeg$House"
  | 5 => .array (.object "OneLeg$Standing")
  | 6 => .array .int
  | 7 => .boolean
  | 8 => .array .int
  | _ => .array .int
theorem nmX6 : ∀ a, a < 10 → ∀ b, b < 10 → a ≠ b → (TX6 a).2.1 ≠ (TX6 b).2.1 := by decide +kernel
theorem tyX6_ok : ∀ k, k < 10 → parseFieldDescriptor (TX6 k).2.2.1 = some (tyX6 k) := by decide +kernel
abbrev cX6_init : ByteArray := prog_8_method_1_code
def yX6_init : MethodName := ⟨RX6, "<init>", "(LOneLeg$House;)V"⟩
abbrev cX6_latest : ByteArray := prog_8_method_2_code
def yX6_latest : MethodName := ⟨RX6, "latest", "()LOneLeg$Standing;"⟩
abbrev cX6_follow : ByteArray := prog_8_method_3_code
def yX6_follow : MethodName := ⟨RX6, "follow", "(LOneLeg$Standing;LOneLeg$Shelf;I)I"⟩
abbrev cX6_seekBest : ByteArray := prog_8_method_4_code
def yX6_seekBest : MethodName := ⟨RX6, "seekBest", "(LOneLeg$Standing;I)V"⟩
abbrev cX6_seekFrom : ByteArray := prog_8_method_5_code
def yX6_seekFrom : MethodName := ⟨RX6, "seekFrom", "(III)V"⟩
abbrev cX6_weigh : ByteArray := prog_8_method_6_code
def yX6_weigh : MethodName := ⟨RX6, "weigh", "(II)V"⟩
abbrev cX6_worthOfTurns : ByteArray := prog_8_method_7_code
def yX6_worthOfTurns : MethodName := ⟨RX6, "worthOfTurns", "(LOneLeg$Standing;III)I"⟩
abbrev cX6_worthFrom : ByteArray := prog_8_method_8_code
def yX6_worthFrom : MethodName := ⟨RX6, "worthFrom", "(IIII)I"⟩
abbrev cX6_worthBehind : ByteArray := prog_8_method_9_code
def yX6_worthBehind : MethodName := ⟨RX6, "worthBehind", "(IIIII)I"⟩
abbrev cX6_draw : ByteArray := prog_8_method_10_code
def yX6_draw : MethodName := ⟨RX6, "draw", "(LOneLeg$Standing;IIIII)I"⟩
abbrev cX6_drawnBy : ByteArray := prog_8_method_11_code
def yX6_drawnBy : MethodName := ⟨RX6, "drawnBy", "(II)I"⟩
abbrev cX6_dealt : ByteArray := prog_8_method_12_code
def yX6_dealt : MethodName := ⟨RX6, "dealt", "(I)I"⟩
abbrev cX6_holderOf : ByteArray := prog_8_method_13_code
def yX6_holderOf : MethodName := ⟨RX6, "holderOf", "(II)I"⟩
abbrev cX6_dealtBy : ByteArray := prog_8_method_14_code
def yX6_dealtBy : MethodName := ⟨RX6, "dealtBy", "(III)I"⟩
abbrev cX6_groupOf : ByteArray := prog_8_method_15_code
def yX6_groupOf : MethodName := ⟨RX6, "groupOf", "(I)I"⟩
abbrev cX6_minutesOut : ByteArray := prog_8_method_16_code
def yX6_minutesOut : MethodName := ⟨RX6, "minutesOut", "()I"⟩
abbrev cX6_sortBySlow : ByteArray := prog_8_method_17_code
def yX6_sortBySlow : MethodName := ⟨RX6, "sortBySlow", "()V"⟩
def RX7 : String := "OneLeg"
def TX7 : u_T := fun k => match k with
  | 0 => ("OneLeg", "house", "LOneLeg$House;", true)
  | 1 => ("OneLeg", "now", "LOneLeg$Standing;", true)
  | 2 => ("OneLeg", "led", "[I", true)
  | 3 => ("OneLeg", "imaged", "LOneLeg$Standing;", true)
  | 4 => ("OneLeg", "imagedLed", "[I", true)
  | 5 => ("OneLeg", "imagedBrothers", "I", false)
  | 6 => ("OneLeg", "hasImage", "Z", false)
  | 7 => ("OneLeg", "thought", "LOneLeg$Thought;", true)
  | 8 => ("OneLeg", "changes", "LOneLeg$Changes;", true)
  | 9 => ("OneLeg", "boots", "LOneLeg$Boots;", true)
  | _ => ("OneLeg", "shelves", "[LOneLeg$Shelf;", true)
def tyX7 : Nat → FieldType := fun k => match k with
  | 0 => .object "OneLeg$House"
  | 1 => .object "OneLeg$Standing"
  | 2 => .array .int
  | 3 => .object "OneLeg$Standing"
  | 4 => .array .int
  | 5 => .int
  | 6 => .boolean
  | 7 => .object "OneLeg$Thought"
  | 8 => .object "OneLeg$Changes"
  | 9 => .object "OneLeg$Boots"
  | _ => .array (.object "OneLeg$Shelf")
theorem nmX7 : ∀ a, a < 11 → ∀ b, b < 11 → a ≠ b → (TX7 a).2.1 ≠ (TX7 b).2.1 := by decide +kernel
theorem tyX7_ok : ∀ k, k < 11 → parseFieldDescriptor (TX7 k).2.2.1 = some (tyX7 k) := by decide +kernel
abbrev cX7_init : ByteArray := prog_1_method_1_code
def yX7_init : MethodName := ⟨RX7, "<init>", "()V"⟩
abbrev cX7_brother : ByteArray := prog_1_method_2_code
def yX7_brother : MethodName := ⟨RX7, "brother", "(I)I"⟩
abbrev cX7_brothers : ByteArray := prog_1_method_3_code
def yX7_brothers : MethodName := ⟨RX7, "brothers", "(III)I"⟩
abbrev cX7_comesFrom : ByteArray := prog_1_method_4_code
def yX7_comesFrom : MethodName := ⟨RX7, "comesFrom", "(LOneLeg$Shelf;I)Z"⟩
abbrev cX7_welcome : ByteArray := prog_1_method_5_code
def yX7_welcome : MethodName := ⟨RX7, "welcome", "(III)I"⟩
abbrev cX7_mend : ByteArray := prog_1_method_6_code
def yX7_mend : MethodName := ⟨RX7, "mend", "(III)I"⟩
abbrev cX7_of : ByteArray := prog_1_method_7_code
def yX7_of : MethodName := ⟨RX7, "of", "(II)I"⟩
abbrev cX7_isNumber : ByteArray := prog_1_method_8_code
def yX7_isNumber : MethodName := ⟨RX7, "isNumber", "(II)Z"⟩
abbrev cX7_numberOf : ByteArray := prog_1_method_9_code
def yX7_numberOf : MethodName := ⟨RX7, "numberOf", "(II)I"⟩
abbrev cX7_become : ByteArray := prog_1_method_10_code
def yX7_become : MethodName := ⟨RX7, "become", "(III)V"⟩
abbrev cX7_feed : ByteArray := prog_1_method_11_code
def yX7_feed : MethodName := ⟨RX7, "feed", "(I)I"⟩
abbrev cX7_law : ByteArray := prog_1_method_12_code
def yX7_law : MethodName := ⟨RX7, "law", "()I"⟩
abbrev cX7_does : ByteArray := prog_1_method_13_code
def yX7_does : MethodName := ⟨RX7, "does", "(I)I"⟩
abbrev cX7_later : ByteArray := prog_1_method_14_code
def yX7_later : MethodName := ⟨RX7, "later", "(IIII)I"⟩
abbrev cX7_deep : ByteArray := prog_1_method_15_code
def yX7_deep : MethodName := ⟨RX7, "deep", "(III)I"⟩
abbrev cX7_bestRota : ByteArray := prog_1_method_16_code
def yX7_bestRota : MethodName := ⟨RX7, "bestRota", "(II)I"⟩
abbrev cX7_told : ByteArray := prog_1_method_17_code
def yX7_told : MethodName := ⟨RX7, "told", "(III)I"⟩
abbrev cX7_knownByGroup : ByteArray := prog_1_method_18_code
def yX7_knownByGroup : MethodName := ⟨RX7, "knownByGroup", "(I)I"⟩
abbrev cX7_apart : ByteArray := prog_1_method_19_code
def yX7_apart : MethodName := ⟨RX7, "apart", "(I)I"⟩
abbrev cX7_fewestApart : ByteArray := prog_1_method_20_code
def yX7_fewestApart : MethodName := ⟨RX7, "fewestApart", "()I"⟩
abbrev cX7_areToldApart : ByteArray := prog_1_method_21_code
def yX7_areToldApart : MethodName := ⟨RX7, "areToldApart", "(I)Z"⟩
abbrev cX7_knownByAll : ByteArray := prog_1_method_22_code
def yX7_knownByAll : MethodName := ⟨RX7, "knownByAll", "()I"⟩
abbrev cX7_fewer : ByteArray := prog_1_method_23_code
def yX7_fewer : MethodName := ⟨RX7, "fewer", "(II)I"⟩
abbrev cX7_manyOrWhich : ByteArray := prog_1_method_24_code
def yX7_manyOrWhich : MethodName := ⟨RX7, "manyOrWhich", "(II)I"⟩
abbrev cX7_week : ByteArray := prog_1_method_25_code
def yX7_week : MethodName := ⟨RX7, "week", "(I)I"⟩
abbrev cX7_fire : ByteArray := prog_1_method_26_code
def yX7_fire : MethodName := ⟨RX7, "fire", "(I)I"⟩
abbrev cX7_firstOut : ByteArray := prog_1_method_27_code
def yX7_firstOut : MethodName := ⟨RX7, "firstOut", "()I"⟩
abbrev cX7_judge : ByteArray := prog_1_method_28_code
def yX7_judge : MethodName := ⟨RX7, "judge", "(II)I"⟩
abbrev cX7_fits : ByteArray := prog_1_method_29_code
def yX7_fits : MethodName := ⟨RX7, "fits", "(III)I"⟩
abbrev cX7_areShelves : ByteArray := prog_1_method_30_code
def yX7_areShelves : MethodName := ⟨RX7, "areShelves", "(I)Z"⟩
abbrev cX7_areBrothers : ByteArray := prog_1_method_31_code
def yX7_areBrothers : MethodName := ⟨RX7, "areBrothers", "(I)Z"⟩
abbrev cX7_refusalOfDebts : ByteArray := prog_1_method_32_code
def yX7_refusalOfDebts : MethodName := ⟨RX7, "refusalOfDebts", "(I)I"⟩
abbrev cX7_firstNotSo : ByteArray := prog_1_method_33_code
def yX7_firstNotSo : MethodName := ⟨RX7, "firstNotSo", "(IIII)I"⟩
abbrev cX7_byTurns : ByteArray := prog_1_method_34_code
def yX7_byTurns : MethodName := ⟨RX7, "byTurns", "(III)I"⟩
abbrev cX7_drawn : ByteArray := prog_1_method_35_code
def yX7_drawn : MethodName := ⟨RX7, "drawn", "(III)I"⟩
abbrev cX7_day : ByteArray := prog_1_method_36_code
def yX7_day : MethodName := ⟨RX7, "day", "(I)I"⟩
abbrev cX7_tells : ByteArray := prog_1_method_37_code
def yX7_tells : MethodName := ⟨RX7, "tells", "(II)I"⟩
abbrev cX7_pays : ByteArray := prog_1_method_38_code
def yX7_pays : MethodName := ⟨RX7, "pays", "(III)I"⟩
abbrev cX7_areTwo : ByteArray := prog_1_method_39_code
def yX7_areTwo : MethodName := ⟨RX7, "areTwo", "(II)Z"⟩
abbrev cX7_cobble : ByteArray := prog_1_method_40_code
def yX7_cobble : MethodName := ⟨RX7, "cobble", "()I"⟩
abbrev cX7_led : ByteArray := prog_1_method_41_code
def yX7_led : MethodName := ⟨RX7, "led", "(I)I"⟩
abbrev cX7_image : ByteArray := prog_1_method_42_code
def yX7_image : MethodName := ⟨RX7, "image", "()I"⟩
abbrev cX7_back : ByteArray := prog_1_method_43_code
def yX7_back : MethodName := ⟨RX7, "back", "()I"⟩
abbrev cX7_undo : ByteArray := prog_1_method_44_code
def yX7_undo : MethodName := ⟨RX7, "undo", "()I"⟩
abbrev cX7_redo : ByteArray := prog_1_method_45_code
def yX7_redo : MethodName := ⟨RX7, "redo", "()I"⟩
abbrev cX7_body : ByteArray := prog_1_method_46_code
def yX7_body : MethodName := ⟨RX7, "body", "(I)I"⟩
abbrev cX7_act : ByteArray := prog_1_method_47_code
def yX7_act : MethodName := ⟨RX7, "act", "(III)I"⟩
abbrev cX7_trace : ByteArray := prog_1_method_48_code
def yX7_trace : MethodName := ⟨RX7, "trace", "(I)I"⟩
abbrev cX7_keep : ByteArray := prog_1_method_49_code
def yX7_keep : MethodName := ⟨RX7, "keep", "(II)I"⟩
abbrev cX7_row : ByteArray := prog_1_method_50_code
def yX7_row : MethodName := ⟨RX7, "row", "(III)I"⟩
abbrev cX7_put : ByteArray := prog_1_method_51_code
def yX7_put : MethodName := ⟨RX7, "put", "(IIJ)I"⟩
abbrev cX7_element : ByteArray := prog_1_method_52_code
def yX7_element : MethodName := ⟨RX7, "element", "(II)J"⟩
abbrev cX7_refusalOfPlace : ByteArray := prog_1_method_53_code
def yX7_refusalOfPlace : MethodName := ⟨RX7, "refusalOfPlace", "(II)I"⟩
abbrev cX7_shift : ByteArray := prog_1_method_54_code
def yX7_shift : MethodName := ⟨RX7, "shift", "(IIIII)I"⟩
abbrev cX7_taken : ByteArray := prog_1_method_55_code
def yX7_taken : MethodName := ⟨RX7, "taken", "(II)I"⟩
abbrev cX7_count : ByteArray := prog_1_method_56_code
def yX7_count : MethodName := ⟨RX7, "count", "(I)I"⟩
abbrev cX7_isBody : ByteArray := prog_1_method_57_code
def yX7_isBody : MethodName := ⟨RX7, "isBody", "(I)Z"⟩
abbrev cX7_isShelf : ByteArray := prog_1_method_58_code
def yX7_isShelf : MethodName := ⟨RX7, "isShelf", "(I)Z"⟩
abbrev cX7_isWithin : ByteArray := prog_1_method_59_code
def yX7_isWithin : MethodName := ⟨RX7, "isWithin", "(III)Z"⟩
def RX8 : String := "OneLegModel"
def TX8 : u_T := fun k => match k with
  | 0 => ("OneLegModel", "brothers", "I", false)
  | 1 => ("OneLegModel", "ways", "[I", true)
  | 2 => ("OneLegModel", "other", "[I", true)
  | 3 => ("OneLegModel", "taped", "I", false)
  | 4 => ("OneLegModel", "tape", "[I", true)
  | 5 => ("OneLegModel", "isTold", "Z", false)
  | 6 => ("OneLegModel", "lines", "I", false)
  | 7 => ("OneLegModel", "asks", "[I", true)
  | 8 => ("OneLegModel", "says", "[I", true)
  | 9 => ("OneLegModel", "ends", "[I", true)
  | 10 => ("OneLegModel", "code", "[I", true)
  | 11 => ("OneLegModel", "at", "I", false)
  | 12 => ("OneLegModel", "open", "I", false)
  | 13 => ("OneLegModel", "coded", "I", false)
  | 14 => ("OneLegModel", "newLines", "I", false)
  | 15 => ("OneLegModel", "newAsks", "[I", true)
  | 16 => ("OneLegModel", "newSays", "[I", true)
  | 17 => ("OneLegModel", "newEnds", "[I", true)
  | 18 => ("OneLegModel", "newCode", "[I", true)
  | 19 => ("OneLegModel", "stack", "[I", true)
  | 20 => ("OneLegModel", "names", "[I", true)
  | 21 => ("OneLegModel", "led", "[I", true)
  | 22 => ("OneLegModel", "imaged", "Z", false)
  | 23 => ("OneLegModel", "oldBrothers", "I", false)
  | 24 => ("OneLegModel", "old", "[I", true)
  | 25 => ("OneLegModel", "oldLed", "[I", true)
  | 26 => ("OneLegModel", "changes", "I", false)
  | 27 => ("OneLegModel", "done", "I", false)
  | 28 => ("OneLegModel", "changed", "[I", true)
  | 29 => ("OneLegModel", "bodies", "I", false)
  | 30 => ("OneLegModel", "bodyKind", "[I", true)
  | 31 => ("OneLegModel", "traced", "I", false)
  | 32 => ("OneLegModel", "traces", "[I", true)
  | 33 => ("OneLegModel", "holding", "[I", true)
  | 34 => ("OneLegModel", "rowLength", "[I", true)
  | 35 => ("OneLegModel", "rowOf", "[J", true)
  | 36 => ("OneLegModel", "was", "[I", true)
  | 37 => ("OneLegModel", "begun", "[I", true)
  | 38 => ("OneLegModel", "tried", "[I", true)
  | 39 => ("OneLegModel", "best", "[I", true)
  | 40 => ("OneLegModel", "most", "I", false)
  | 41 => ("OneLegModel", "least", "I", false)
  | _ => ("OneLegModel", "minutes", "[I", true)
def tyX8 : Nat → FieldType := fun k => match k with
  | 0 => .int
  | 1 => .array .int
  | 2 => .array .int
  | 3 => .int
  | 4 => .array .int
  | 5 => .boolean
  | 6 => .int
  | 7 => .array .int
  | 8 => .array .int
  | 9 => .array .int
  | 10 => .array .int
  | 11 => .int
  | 12 => .int
  | 13 => .int
  | 14 => .int
  | 15 => .array .int
  | 16 => .array .int
  | 17 => .array .int
  | 18 => .array .int
  | 19 => .array .int
  | 20 => .array .int
  | 21 => .array .int
  | 22 => .boolean
  | 23 => .int
  | 24 => .array .int
  | 25 => .array .int
  | 26 => .int
  | 27 => .int
  | 28 => .array .int
  | 29 => .int
  | 30 => .array .int
  | 31 => .int
  | 32 => .array .int
  | 33 => .array .int
  | 34 => .array .int
  | 35 => .array .long
  | 36 => .array .int
  | 37 => .array .int
  | 38 => .array .int
  | 39 => .array .int
  | 40 => .int
  | 41 => .int
  | _ => .array .int
theorem nmX8 : ∀ a, a < 43 → ∀ b, b < 43 → a ≠ b → (TX8 a).2.1 ≠ (TX8 b).2.1 := by decide +kernel
theorem tyX8_ok : ∀ k, k < 43 → parseFieldDescriptor (TX8 k).2.2.1 = some (tyX8 k) := by decide +kernel
abbrev cX8_init : ByteArray := prog_10_method_1_code
def yX8_init : MethodName := ⟨RX8, "<init>", "()V"⟩
abbrev cX8_within : ByteArray := prog_10_method_2_code
def yX8_within : MethodName := ⟨RX8, "within", "(III)Z"⟩
abbrev cX8_isOne : ByteArray := prog_10_method_3_code
def yX8_isOne : MethodName := ⟨RX8, "isOne", "(I)Z"⟩
abbrev cX8_isShelf : ByteArray := prog_10_method_4_code
def yX8_isShelf : MethodName := ⟨RX8, "isShelf", "(I)Z"⟩
abbrev cX8_has : ByteArray := prog_10_method_5_code
def yX8_has : MethodName := ⟨RX8, "has", "(II)Z"⟩
abbrev cX8_newOne : ByteArray := prog_10_method_6_code
def yX8_newOne : MethodName := ⟨RX8, "newOne", "(III)I"⟩
abbrev cX8_brother : ByteArray := prog_10_method_7_code
def yX8_brother : MethodName := ⟨RX8, "brother", "(I)I"⟩
abbrev cX8_brothers : ByteArray := prog_10_method_8_code
def yX8_brothers : MethodName := ⟨RX8, "brothers", "(III)I"⟩
abbrev cX8_toldAt : ByteArray := prog_10_method_9_code
def yX8_toldAt : MethodName := ⟨RX8, "toldAt", "(II)I"⟩
abbrev cX8_isOf : ByteArray := prog_10_method_10_code
def yX8_isOf : MethodName := ⟨RX8, "isOf", "(II)Z"⟩
abbrev cX8_isFit : ByteArray := prog_10_method_11_code
def yX8_isFit : MethodName := ⟨RX8, "isFit", "(II)Z"⟩
abbrev cX8_get : ByteArray := prog_10_method_12_code
def yX8_get : MethodName := ⟨RX8, "get", "(II)I"⟩
abbrev cX8_becomes : ByteArray := prog_10_method_13_code
def yX8_becomes : MethodName := ⟨RX8, "becomes", "(III)V"⟩
abbrev cX8_mend : ByteArray := prog_10_method_14_code
def yX8_mend : MethodName := ⟨RX8, "mend", "(III)I"⟩
abbrev cX8_of : ByteArray := prog_10_method_15_code
def yX8_of : MethodName := ⟨RX8, "of", "(II)I"⟩
abbrev cX8_undo : ByteArray := prog_10_method_16_code
def yX8_undo : MethodName := ⟨RX8, "undo", "()I"⟩
abbrev cX8_redo : ByteArray := prog_10_method_17_code
def yX8_redo : MethodName := ⟨RX8, "redo", "()I"⟩
abbrev cX8_feed : ByteArray := prog_10_method_18_code
def yX8_feed : MethodName := ⟨RX8, "feed", "(I)I"⟩
abbrev cX8_sign : ByteArray := prog_10_method_19_code
def yX8_sign : MethodName := ⟨RX8, "sign", "()I"⟩
abbrev cX8_is : ByteArray := prog_10_method_20_code
def yX8_is : MethodName := ⟨RX8, "is", "(I)Z"⟩
abbrev cX8_codes : ByteArray := prog_10_method_21_code
def yX8_codes : MethodName := ⟨RX8, "codes", "(I)Z"⟩
abbrev cX8_isDigit : ByteArray := prog_10_method_22_code
def yX8_isDigit : MethodName := ⟨RX8, "isDigit", "()Z"⟩
abbrev cX8_nameOf : ByteArray := prog_10_method_23_code
def yX8_nameOf : MethodName := ⟨RX8, "nameOf", "(I)I"⟩
abbrev cX8_isO : ByteArray := prog_10_method_24_code
def yX8_isO : MethodName := ⟨RX8, "isO", "()Z"⟩
abbrev cX8_isP : ByteArray := prog_10_method_25_code
def yX8_isP : MethodName := ⟨RX8, "isP", "()Z"⟩
abbrev cX8_isS : ByteArray := prog_10_method_26_code
def yX8_isS : MethodName := ⟨RX8, "isS", "()Z"⟩
abbrev cX8_isB : ByteArray := prog_10_method_27_code
def yX8_isB : MethodName := ⟨RX8, "isB", "()Z"⟩
abbrev cX8_isA : ByteArray := prog_10_method_28_code
def yX8_isA : MethodName := ⟨RX8, "isA", "()Z"⟩
abbrev cX8_isE : ByteArray := prog_10_method_29_code
def yX8_isE : MethodName := ⟨RX8, "isE", "()Z"⟩
abbrev cX8_isLine : ByteArray := prog_10_method_30_code
def yX8_isLine : MethodName := ⟨RX8, "isLine", "()Z"⟩
abbrev cX8_law : ByteArray := prog_10_method_31_code
def yX8_law : MethodName := ⟨RX8, "law", "()I"⟩
abbrev cX8_both : ByteArray := prog_10_method_32_code
def yX8_both : MethodName := ⟨RX8, "both", "(III)I"⟩
abbrev cX8_worked : ByteArray := prog_10_method_33_code
def yX8_worked : MethodName := ⟨RX8, "worked", "(II)I"⟩
abbrev cX8_wants : ByteArray := prog_10_method_34_code
def yX8_wants : MethodName := ⟨RX8, "wants", "(II)Z"⟩
abbrev cX8_byLaw : ByteArray := prog_10_method_35_code
def yX8_byLaw : MethodName := ⟨RX8, "byLaw", "(I)I"⟩
abbrev cX8_doneBy : ByteArray := prog_10_method_36_code
def yX8_doneBy : MethodName := ⟨RX8, "doneBy", "(I)I"⟩
abbrev cX8_does : ByteArray := prog_10_method_37_code
def yX8_does : MethodName := ⟨RX8, "does", "(I)I"⟩
abbrev cX8_passes : ByteArray := prog_10_method_38_code
def yX8_passes : MethodName := ⟨RX8, "passes", "(I)I"⟩
abbrev cX8_keeps : ByteArray := prog_10_method_39_code
def yX8_keeps : MethodName := ⟨RX8, "keeps", "([I)V"⟩
abbrev cX8_laysBack : ByteArray := prog_10_method_40_code
def yX8_laysBack : MethodName := ⟨RX8, "laysBack", "([I)V"⟩
abbrev cX8_allOwed : ByteArray := prog_10_method_41_code
def yX8_allOwed : MethodName := ⟨RX8, "allOwed", "()I"⟩
abbrev cX8_noBytes : ByteArray := prog_10_method_42_code
def yX8_noBytes : MethodName := ⟨RX8, "noBytes", "(I)I"⟩
abbrev cX8_daysOf : ByteArray := prog_10_method_43_code
def yX8_daysOf : MethodName := ⟨RX8, "daysOf", "(I)I"⟩
abbrev cX8_goes : ByteArray := prog_10_method_44_code
def yX8_goes : MethodName := ⟨RX8, "goes", "(II)I"⟩
abbrev cX8_later : ByteArray := prog_10_method_45_code
def yX8_later : MethodName := ⟨RX8, "later", "(IIII)I"⟩
abbrev cX8_deep : ByteArray := prog_10_method_46_code
def yX8_deep : MethodName := ⟨RX8, "deep", "(III)I"⟩
abbrev cX8_tries : ByteArray := prog_10_method_47_code
def yX8_tries : MethodName := ⟨RX8, "tries", "(II)V"⟩
abbrev cX8_bestRota : ByteArray := prog_10_method_48_code
def yX8_bestRota : MethodName := ⟨RX8, "bestRota", "(II)I"⟩
abbrev cX8_knownBy : ByteArray := prog_10_method_49_code
def yX8_knownBy : MethodName := ⟨RX8, "knownBy", "(I)I"⟩
abbrev cX8_told : ByteArray := prog_10_method_50_code
def yX8_told : MethodName := ⟨RX8, "told", "(III)I"⟩
abbrev cX8_parts : ByteArray := prog_10_method_51_code
def yX8_parts : MethodName := ⟨RX8, "parts", "(I)Z"⟩
abbrev cX8_apart : ByteArray := prog_10_method_52_code
def yX8_apart : MethodName := ⟨RX8, "apart", "(I)I"⟩
abbrev cX8_deals : ByteArray := prog_10_method_53_code
def yX8_deals : MethodName := ⟨RX8, "deals", "(III)V"⟩
abbrev cX8_week : ByteArray := prog_10_method_54_code
def yX8_week : MethodName := ⟨RX8, "week", "(I)I"⟩
abbrev cX8_slow : ByteArray := prog_10_method_55_code
def yX8_slow : MethodName := ⟨RX8, "slow", "(I)I"⟩
abbrev cX8_goOut : ByteArray := prog_10_method_56_code
def yX8_goOut : MethodName := ⟨RX8, "goOut", "(III)I"⟩
abbrev cX8_burns : ByteArray := prog_10_method_57_code
def yX8_burns : MethodName := ⟨RX8, "burns", "()V"⟩
abbrev cX8_fire : ByteArray := prog_10_method_58_code
def yX8_fire : MethodName := ⟨RX8, "fire", "(I)I"⟩
abbrev cX8_noDebts : ByteArray := prog_10_method_59_code
def yX8_noDebts : MethodName := ⟨RX8, "noDebts", "(I)I"⟩
abbrev cX8_unlike : ByteArray := prog_10_method_60_code
def yX8_unlike : MethodName := ⟨RX8, "unlike", "(II)I"⟩
abbrev cX8_judge : ByteArray := prog_10_method_61_code
def yX8_judge : MethodName := ⟨RX8, "judge", "(II)I"⟩
abbrev cX8_fits : ByteArray := prog_10_method_62_code
def yX8_fits : MethodName := ⟨RX8, "fits", "(III)I"⟩
abbrev cX8_turnFrom : ByteArray := prog_10_method_63_code
def yX8_turnFrom : MethodName := ⟨RX8, "turnFrom", "(III)I"⟩
abbrev cX8_turnBy : ByteArray := prog_10_method_64_code
def yX8_turnBy : MethodName := ⟨RX8, "turnBy", "(IIIZ)I"⟩
abbrev cX8_byTurns : ByteArray := prog_10_method_65_code
def yX8_byTurns : MethodName := ⟨RX8, "byTurns", "(III)I"⟩
abbrev cX8_drawn : ByteArray := prog_10_method_66_code
def yX8_drawn : MethodName := ⟨RX8, "drawn", "(III)I"⟩
abbrev cX8_day : ByteArray := prog_10_method_67_code
def yX8_day : MethodName := ⟨RX8, "day", "(I)I"⟩
abbrev cX8_tells : ByteArray := prog_10_method_68_code
def yX8_tells : MethodName := ⟨RX8, "tells", "(II)I"⟩
abbrev cX8_pays : ByteArray := prog_10_method_69_code
def yX8_pays : MethodName := ⟨RX8, "pays", "(III)I"⟩
abbrev cX8_cobble : ByteArray := prog_10_method_70_code
def yX8_cobble : MethodName := ⟨RX8, "cobble", "()I"⟩
abbrev cX8_led : ByteArray := prog_10_method_71_code
def yX8_led : MethodName := ⟨RX8, "led", "(I)I"⟩
abbrev cX8_image : ByteArray := prog_10_method_72_code
def yX8_image : MethodName := ⟨RX8, "image", "()I"⟩
abbrev cX8_back : ByteArray := prog_10_method_73_code
def yX8_back : MethodName := ⟨RX8, "back", "()I"⟩
abbrev cX8_above : ByteArray := prog_10_method_74_code
def yX8_above : MethodName := ⟨RX8, "above", "(I)I"⟩
abbrev cX8_ran : ByteArray := prog_10_method_75_code
def yX8_ran : MethodName := ⟨RX8, "ran", "(I)V"⟩
abbrev cX8_walksBy : ByteArray := prog_10_method_76_code
def yX8_walksBy : MethodName := ⟨RX8, "walksBy", "(III)I"⟩
abbrev cX8_leansBy : ByteArray := prog_10_method_77_code
def yX8_leansBy : MethodName := ⟨RX8, "leansBy", "(III)I"⟩
abbrev cX8_owesBy : ByteArray := prog_10_method_78_code
def yX8_owesBy : MethodName := ⟨RX8, "owesBy", "(III)I"⟩
abbrev cX8_tells_ : ByteArray := prog_10_method_79_code
def yX8_tells_ : MethodName := ⟨RX8, "tells", "(III)I"⟩
abbrev cX8_body : ByteArray := prog_10_method_80_code
def yX8_body : MethodName := ⟨RX8, "body", "(I)I"⟩
abbrev cX8_act : ByteArray := prog_10_method_81_code
def yX8_act : MethodName := ⟨RX8, "act", "(III)I"⟩
abbrev cX8_trace : ByteArray := prog_10_method_82_code
def yX8_trace : MethodName := ⟨RX8, "trace", "(I)I"⟩
abbrev cX8_keep : ByteArray := prog_10_method_83_code
def yX8_keep : MethodName := ⟨RX8, "keep", "(II)I"⟩
abbrev cX8_row : ByteArray := prog_10_method_84_code
def yX8_row : MethodName := ⟨RX8, "row", "(III)I"⟩
abbrev cX8_isRow : ByteArray := prog_10_method_85_code
def yX8_isRow : MethodName := ⟨RX8, "isRow", "(I)Z"⟩
abbrev cX8_kept : ByteArray := prog_10_method_86_code
def yX8_kept : MethodName := ⟨RX8, "kept", "(IJ)J"⟩
abbrev cX8_put : ByteArray := prog_10_method_87_code
def yX8_put : MethodName := ⟨RX8, "put", "(IIJ)I"⟩
abbrev cX8_element : ByteArray := prog_10_method_88_code
def yX8_element : MethodName := ⟨RX8, "element", "(II)J"⟩
abbrev cX8_shift : ByteArray := prog_10_method_89_code
def yX8_shift : MethodName := ⟨RX8, "shift", "(IIIII)I"⟩
abbrev cX8_taken : ByteArray := prog_10_method_90_code
def yX8_taken : MethodName := ⟨RX8, "taken", "(II)I"⟩
abbrev cX8_count : ByteArray := prog_10_method_91_code
def yX8_count : MethodName := ⟨RX8, "count", "(I)I"⟩
def RJ6 : String := "java/lang/Integer"
abbrev cJ6_bitCount_0f7a4 : ByteArray := prog_11_method_49_code
def yJ6_bitCount_0f7a4 : MethodName := ⟨RJ6, "bitCount", "(I)I"⟩
def RJ9 : String := "java/lang/Math"
abbrev cJ9_max_7cf53 : ByteArray := prog_12_method_65_code
def yJ9_max_7cf53 : MethodName := ⟨RJ9, "max", "(II)I"⟩
abbrev cJ9_min_7cf53 : ByteArray := prog_12_method_69_code
def yJ9_min_7cf53 : MethodName := ⟨RJ9, "min", "(II)I"⟩
def RJ10 : String := "java/lang/System"
abbrev vwCl : List vw_C := [(RX0, TX0, 4), (RX1, TX1, 6), (RX2, TX2, 7), (RX3, TX3, 8), (RX4, TX4, 4), (RX5, TX5, 4), (RX6, TX6, 10), (RX7, TX7, 11), (RX8, TX8, 43)]
theorem rf_mem {big : List Cond} (ws : List Cond) (ps : List Nat) (hp : ws = ps.filterMap (fun i => big[i]?)) : ∀ w ∈ ws, w ∈ big := by
  intro w hw
  rw [hp] at hw
  obtain ⟨i, -, hi⟩ := List.mem_filterMap.mp hw
  exact List.mem_of_getElem? hi
set_option maxRecDepth 20000 in
theorem inX0 : ∀ w ∈ u_ws RX0 TX0 4, w ∈ lw_tbl := rf_mem _ [289, 291, 293, 295] rfl
set_option maxRecDepth 20000 in
theorem inX1 : ∀ w ∈ u_ws RX1 TX1 6, w ∈ lw_tbl := rf_mem _ [262, 264, 266, 268, 270, 272] rfl
set_option maxRecDepth 20000 in
theorem inX2 : ∀ w ∈ u_ws RX2 TX2 7, w ∈ lw_tbl := rf_mem _ [158, 160, 162, 164, 166, 168, 170] rfl
set_option maxRecDepth 20000 in
theorem inX3 : ∀ w ∈ u_ws RX3 TX3 8, w ∈ lw_tbl := rf_mem _ [124, 126, 128, 130, 132, 134, 136, 138] rfl
set_option maxRecDepth 20000 in
theorem inX4 : ∀ w ∈ u_ws RX4 TX4 4, w ∈ lw_tbl := rf_mem _ [315, 317, 319, 321] rfl
set_option maxRecDepth 20000 in
theorem inX5 : ∀ w ∈ u_ws RX5 TX5 4, w ∈ lw_tbl := rf_mem _ [191, 193, 195, 197] rfl
set_option maxRecDepth 20000 in
theorem inX6 : ∀ w ∈ u_ws RX6 TX6 10, w ∈ lw_tbl := rf_mem _ [223, 225, 227, 229, 231, 233, 235, 237, 239, 241] rfl
set_option maxRecDepth 20000 in
theorem inX7 : ∀ w ∈ u_ws RX7 TX7 11, w ∈ lw_tbl := rf_mem _ [336, 338, 340, 342, 344, 346, 348, 350, 352, 354, 356] rfl
set_option maxRecDepth 20000 in
theorem inX8 : ∀ w ∈ u_ws RX8 TX8 43, w ∈ lw_tbl := rf_mem _ [882, 884, 886, 888, 890, 892, 894, 896, 898, 900, 902, 904, 906, 908, 910, 912, 914, 916, 918, 920, 922, 924, 926, 928, 930, 932, 934, 936, 938, 940, 942, 944, 946, 948, 950, 952, 954, 956, 958, 960, 962, 964, 966] rfl
end
section

/-! the abstract state: int fields, int arrays, long arrays, each by cell and place -/
abbrev rfS : Type := (Nat → Nat → Int32) × (Nat → Nat → Int32) × (Nat → Nat → Int64)
def gI (σ : rfS) (k j : Nat) : Int32 := σ.1 k j
def gF (σ : rfS) (k j : Nat) : Int32 := σ.2.1 k j
def gL (σ : rfS) (k j : Nat) : Int64 := σ.2.2 k j
def sI (σ : rfS) (k j : Nat) (v : Int32) : rfS := (fun a b => if a = k ∧ b = j then v else σ.1 a b, σ.2.1, σ.2.2)
def sF (σ : rfS) (k j : Nat) (v : Int32) : rfS := (σ.1, fun a => if a = k then upd (σ.2.1 k) j v else σ.2.1 a, σ.2.2)
def sL (σ : rfS) (k j : Nat) (v : Int64) : rfS := (σ.1, σ.2.1, fun a => if a = k then vp_updL (σ.2.2 k) j v else σ.2.2 a)
def cF (σ : rfS) (k k2 sp dp n : Nat) : rfS := (σ.1, fun a => if a = k2 then va_cpy (σ.2.1 k) (σ.2.1 k2) sp dp n else σ.2.1 a, σ.2.2)
def cL (σ : rfS) (k k2 sp dp n : Nat) : rfS := (σ.1, σ.2.1, fun a => if a = k2 then va_cpy (σ.2.2 k) (σ.2.2 k2) sp dp n else σ.2.2 a)
theorem gI_sI (σ : rfS) (k j : Nat) (v : Int32) (a b : Nat) : gI (sI σ k j v) a b = if a = k ∧ b = j then v else gI σ a b := rfl
theorem gI_sF (σ : rfS) (k j : Nat) (v : Int32) (a b : Nat) : gI (sF σ k j v) a b = gI σ a b := rfl
theorem gI_sL (σ : rfS) (k j : Nat) (v : Int64) (a b : Nat) : gI (sL σ k j v) a b = gI σ a b := rfl
theorem gF_sI (σ : rfS) (k j : Nat) (v : Int32) (a b : Nat) : gF (sI σ k j v) a b = gF σ a b := rfl
theorem gF_sF (σ : rfS) (k j : Nat) (v : Int32) (a b : Nat) : gF (sF σ k j v) a b = if a = k ∧ b = j then v else gF σ a b := by
  unfold gF sF
  by_cases h : a = k
  · subst h
    by_cases h2 : b = j
    · simp [upd, h2]
    · simp [upd, h2]
  · simp [h]
theorem gF_sL (σ : rfS) (k j : Nat) (v : Int64) (a b : Nat) : gF (sL σ k j v) a b = gF σ a b := rfl
theorem gL_sI (σ : rfS) (k j : Nat) (v : Int32) (a b : Nat) : gL (sI σ k j v) a b = gL σ a b := rfl
theorem gL_sF (σ : rfS) (k j : Nat) (v : Int32) (a b : Nat) : gL (sF σ k j v) a b = gL σ a b := rfl
theorem gL_sL (σ : rfS) (k j : Nat) (v : Int64) (a b : Nat) : gL (sL σ k j v) a b = if a = k ∧ b = j then v else gL σ a b := by
  unfold gL sL
  by_cases h : a = k
  · subst h
    by_cases h2 : b = j
    · simp [vp_updL, h2]
    · simp [vp_updL, h2]
  · simp [h]
theorem gI_cF (σ : rfS) (k k2 sp dp n a b : Nat) : gI (cF σ k k2 sp dp n) a b = gI σ a b := rfl
theorem gL_cF (σ : rfS) (k k2 sp dp n a b : Nat) : gL (cF σ k k2 sp dp n) a b = gL σ a b := rfl
theorem gF_cF (σ : rfS) (k k2 sp dp n a b : Nat) : gF (cF σ k k2 sp dp n) a b = if a = k2 ∧ dp ≤ b ∧ b < dp + n then gF σ k (sp + (b - dp)) else gF σ a b := by
  unfold gF cF va_cpy
  by_cases h : a = k2
  · subst h
    by_cases h2 : dp ≤ b ∧ b < dp + n
    · simp [h2]
    · simp [h2]
  · simp [h]
theorem gI_cL (σ : rfS) (k k2 sp dp n a b : Nat) : gI (cL σ k k2 sp dp n) a b = gI σ a b := rfl
theorem gF_cL (σ : rfS) (k k2 sp dp n a b : Nat) : gF (cL σ k k2 sp dp n) a b = gF σ a b := rfl
theorem gL_cL (σ : rfS) (k k2 sp dp n a b : Nat) : gL (cL σ k k2 sp dp n) a b = if a = k2 ∧ dp ≤ b ∧ b < dp + n then gL σ k (sp + (b - dp)) else gL σ a b := by
  unfold gL cL va_cpy
  by_cases h : a = k2
  · subst h
    by_cases h2 : dp ≤ b ∧ b < dp + n
    · simp [h2]
    · simp [h2]
  · simp [h]
/-! a layout: how many cells; of which kind (0 ints, 1 longs, 2 and 3 references, c + 4 an object of class c); how long; where fields and rows point -/
abbrev rfL : Type := Nat × (Nat → Nat) × (Nat → Nat) × (Nat → Nat → Nat → Option Nat) × (Nat → Nat → Nat)
def rfN (c : Nat) : Nat := match vwCl[c]? with
  | some q => q.2.2
  | none => 0
def rfV (ad : Nat → Nat) (v : Value) : Value := match v with
  | .ref k => .ref (ad k)
  | w => w
def rfFl (Λ : rfL) (σ : rfS) (c k j : Nat) : Value := match Λ.2.2.2.1 c k j with
  | some q => .ref q
  | none => .int (σ.1 k j)
def rfCell (Λ : rfL) (tc : Nat → ClassId) (ad : Nat → Nat) (σ : rfS) (k : Nat) : va_E := match Λ.2.1 k with
  | 0 => .inl (tc 0, Λ.2.2.1 k, .inl (σ.2.1 k))
  | 1 => .inl (tc 1, Λ.2.2.1 k, .inr (.inl (σ.2.2 k)))
  | 2 => .inl (tc 2, Λ.2.2.1 k, .inr (.inr (.inr (.inr (fun j => some (ad (Λ.2.2.2.2 k j)))))))
  | 3 => .inl (tc 3, Λ.2.2.1 k, .inr (.inr (.inr (.inr (fun j => some (ad (Λ.2.2.2.2 k j)))))))
  | c + 4 => .inr (c, (List.range (rfN c)).map (fun j => rfV ad (rfFl Λ σ c k j)))
def rfW (Λ : rfL) (tc : Nat → ClassId) (ad : Nat → Nat) (σ : rfS) : va_W := (List.range Λ.1).map (fun k => (ad k, rfCell Λ tc ad σ k))
def rfT (tc : Nat → ClassId) : List (ClassId × FieldType) := [(tc 0, .int), (tc 1, .long), (tc 2, .object "OneLeg$Standing"), (tc 3, .object "OneLeg$Shelf")]
def rfA (Λ : rfL) (ad : Nat → Nat) (sz : Nat) : Nat → Prop := fun q => (∃ k, k < Λ.1 ∧ q = ad k) ∨ sz ≤ q
def rfG : List Cond := lw_tbl.filter goodWord
theorem rf_g {w : Cond} (h : w ∈ lw_tbl) (hg : goodWord w = true) : w ∈ rfG := List.mem_filter.mpr ⟨h, hg⟩
theorem rf_gl {w : Cond} (i : Nat) (h : lw_tbl[i]? = some w) (hg : goodWord w = true) : w ∈ rfG := rf_g (List.mem_of_getElem? h) hg
theorem rf_good {ws : List Cond} (h : ∀ w ∈ ws, w ∈ rfG) : GoodIn rfG ws := fun w hw => ⟨h w hw, good_of_word (List.mem_filter.mp (h w hw)).2⟩
def rfR (d : Nat) : Room := { frames := d, cells := 0, slots := 0, locals := 64 * d }
/-! the class's four static rows -/
def rfSL : List (Nat × String × String × List Int32) := [(1000, "OneLeg", "LEAST_OF", [0, 0, 0, 1, 0, 0, 0, 0]), (1001, "OneLeg", "MOST_OF", [127, 99, 255, 9, 3, 7, 99, 6]), (1002, "OneLeg$Boots", "ABOVE", [-1, 0, 0, 2, 1, 3, 0, 4]), (1003, "OneLeg$Boots", "BODIES", [1, 10, 11, 2, 20, 0, 0, 0, 0, 30, 0, 0, 0, 41, 40, 0, 0, 0, 50, 0, 0, 0, 0, 60, 70, 0, 0, 0, 0, 80, 0, 81])]
def rfSt (ad : Nat → Nat) (b0 : Nat) (s : State) (H : Heap) : Prop := ∀ q ∈ rfSL, va_Z q.2.1 q.2.2.1 "[I" (.ref (ad q.1)) (fun x => b0 ≤ x) s H ∧ va_T .int (ad q.1) q.2.2.2.length (fun j => .int (q.2.2.2.getD j 0)) (fun x => b0 ≤ x) s H
theorem rfSt.moved {ad : Nat → Nat} {b0 : Nat} {s t : State} {H : Heap} (hv : s.vm.Alike t.vm) (h : rfSt ad b0 s H) : rfSt ad b0 t H := fun q hq => ⟨(h q hq).1.moved hv, (h q hq).2.moved hv⟩
theorem rfSt.kept {ad : Nat → Nat} {b0 : Nat} {s : State} {H H1 : Heap} (h : rfSt ad b0 s H) (hq : ∀ a : Nat, a < H.size → ¬ b0 ≤ a → H1[a]? = H[a]?) : rfSt ad b0 s H1 := fun q h1 => ⟨(h q h1).1.kept hq, (h q h1).2.kept hq⟩
def rfInj (Λ : rfL) (ad : Nat → Nat) (b0 : Nat) : Prop := (∀ i j, i < Λ.1 → j < Λ.1 → ad i = ad j → i = j) ∧ ∀ k, k < Λ.1 → b0 ≤ ad k
/-- the world of a state -/
def rfB (Λ : rfL) (D : va_G) (tc : Nat → ClassId) (ad : Nat → Nat) (b0 : Nat) (σ : rfS) (U : State) : Prop :=
  va_P D vwCl (rfW Λ tc ad σ) U.heap ∧ va_K D vwCl (rfT tc) U ∧ rfInj Λ ad b0 ∧ b0 ≤ U.heap.size ∧ rfSt ad b0 U U.heap
def rfQ (Λ : rfL) (D : va_G) (tc : Nat → ClassId) (ad : Nat → Nat) (b0 sz : Nat) (Q : Option Value → rfS → Prop) : Array Value → State → Outcome → State → Prop := fun _ st oc t =>
  (∃ (r : Option Value) (σ : rfS), oc = .returned (r.map (rfV ad)) ∧ Q r σ ∧ rfB Λ D tc ad b0 σ t) ∧ va_F (rfA Λ ad sz) st t
/-- a method's contract: from the state σ with these arguments it ends with Q -/
def RM (Λ : rfL) (d : Nat) (y : MethodName) (cc : ByteArray) (nL : Nat) (ret : Option FieldType) (as : List Value) (σ : rfS) (Q : Option Value → rfS → Prop) : Prop :=
  ∀ (l : Launch) (D : va_G) (tc : Nat → ClassId) (ad : Nat → Nat) (b0 sz : Nat), Met l y (Cond.code y cc nL ret :: rfG) (rfR d) (va_Pc (as.map (rfV ad)) (fun U => U.heap.size = sz ∧ rfB Λ D tc ad b0 σ U)) (rfQ Λ D tc ad b0 sz Q) 0 0 (rfA Λ ad sz)
abbrev rfE : Type := Program × Launch × Env × State × MethodId × Array Value × List Frame × Method × Code × va_G × (Nat → ClassId) × (Nat → Nat) × Nat
def rfX (Λ : rfL) (E : rfE) (y : MethodName) (cc : ByteArray) (nL : Nat) (ret : Option FieldType) : Prop := match E with
  | (p, _, _, s, m, args, _, meth, c, D, tc, ad, b0) => p.tables.exec = Jvm.exec ∧ c.code = cc ∧ meth.sig.returnType = ret ∧ c.maxLocals = nL ∧ s.vm.findClass y.cls = some m.cls ∧ (∀ w ∈ rfG, w.before args s = true) ∧ meth.locks = false ∧ va_K D vwCl (rfT tc) s ∧ rfInj Λ ad b0 ∧ b0 ≤ s.heap.size ∧ rfSt ad b0 s s.heap
/-- the machine, now in this method at pc, comes to its end with Q -/
def Rf (Λ : rfL) (d : Nat) (E : rfE) (nL : Nat) (Q : Option Value → rfS → Prop) (pc : Nat) (ls : List (Nat × Value)) (st : List Value) (σ : rfS) : Prop := match E with
  | (p, l, e, s, m, args, below, meth, c, D, tc, ad, b0) => ∀ (H : Heap) (locs : List Loc) (la : Array Slot), va_P D vwCl (rfW Λ tc ad σ) H → va_S (rfA Λ ad s.heap.size) s.heap H locs → lv_has la nL (ls.map (fun q => (q.1, rfV ad q.2))) →
      W p l e (rfR d) s m args below meth c H locs 0 0 (MQ below (rfQ Λ D tc ad b0 s.heap.size Q) args s 0 0 (rfA Λ ad s.heap.size)) (F0 m pc la (st.map (rfV ad)))
theorem rfV_cat (ad : Nat → Nat) (v : Value) : (rfV ad v).category = v.category := by cases v <;> rfl
theorem rfW_at {Λ : rfL} {tc : Nat → ClassId} {ad : Nat → Nat} {σ : rfS} {k : Nat} (h : k < Λ.1) : (rfW Λ tc ad σ)[k]? = some (ad k, rfCell Λ tc ad σ k) := by
  simp [rfW, List.getElem?_map, List.getElem?_range h]
theorem rfW_set {Λ : rfL} {tc : Nat → ClassId} {ad : Nat → Nat} {σ σ' : rfS} {k : Nat} {e : va_E} (hk : rfCell Λ tc ad σ' k = e) (ho : ∀ j, j ≠ k → rfCell Λ tc ad σ' j = rfCell Λ tc ad σ j) : (rfW Λ tc ad σ).set k (ad k, e) = rfW Λ tc ad σ' := by
  apply List.ext_getElem?
  intro i
  rw [List.getElem?_set]
  by_cases hi : i < Λ.1
  · rw [rfW_at hi, rfW_at hi]
    by_cases hki : k = i
    · subst hki
      simp [rfW, hi, hk]
    · rw [if_neg hki, ho i (fun q => hki q.symm)]
  · have h1 : (rfW Λ tc ad σ)[i]? = none := List.getElem?_eq_none (by simp [rfW]; omega)
    have h2 : (rfW Λ tc ad σ')[i]? = none := List.getElem?_eq_none (by simp [rfW]; omega)
    rw [h1, h2]
    by_cases hki : k = i
    · subst hki
      simp [rfW, hi]
    · rw [if_neg hki]
theorem rfW_D {Λ : rfL} {tc : Nat → ClassId} {ad : Nat → Nat} {b0 sz : Nat} (σ : rfS) (h : rfInj Λ ad b0) : va_D (rfA Λ ad sz) (rfW Λ tc ad σ) := by
  have at' : ∀ (i : Nat) (q : Nat × va_E), (rfW Λ tc ad σ)[i]? = some q → i < Λ.1 ∧ q.1 = ad i := by
    intro i q hq
    by_cases hi : i < Λ.1
    · rw [rfW_at hi] at hq
      cases hq
      exact ⟨hi, rfl⟩
    · rw [List.getElem?_eq_none (by simp [rfW]; omega)] at hq
      cases hq
  refine ⟨fun i j p q hp hq e => ?_, fun k q hq => ?_⟩
  · obtain ⟨a1, a2⟩ := at' i p hp
    obtain ⟨b1, b2⟩ := at' j q hq
    exact h.1 i j a1 b1 (by rw [← a2, ← b2]; exact e)
  · obtain ⟨a1, a2⟩ := at' k q hq
    exact Or.inl ⟨k, a1, a2⟩
theorem rf_map {ad : Nat → Nat} {ls : List (Nat × Value)} {k i : Nat} {v : Value} (h : ls[k]? = some (i, v)) : (ls.map (fun q => (q.1, rfV ad q.2)))[k]? = some (i, rfV ad v) := by
  simp [List.getElem?_map, h]
theorem rf_filt {ad : Nat → Nat} {ls : List (Nat × Value)} (f : Nat → Nat → Bool) : (ls.map (fun q => (q.1, rfV ad q.2))).filter (fun q => f q.1 q.2.category) = (ls.filter (fun q => f q.1 q.2.category)).map (fun q => (q.1, rfV ad q.2)) := by
  rw [List.filter_map]
  congr 1
  apply List.filter_congr
  intro q _
  simp [Function.comp, rfV_cat]


section RfRules
variable {Λ : rfL} {d : Nat} {E : rfE} {y : MethodName} {cc : ByteArray} {nL : Nat} {ret : Option FieldType} {Q : Option Value → rfS → Prop} {pc pc2 : Nat} {ls ls2 : List (Nat × Value)} {st : List Value} {σ : rfS}

theorem Rf_iconst (X : rfX Λ E y cc nL ret) {n : Int} {v : Int32} (hv : Int32.ofInt n = v) (hd : decode cc pc = .ok (.iconst n, 1)) (hp : pc + 1 = pc2) (k : Rf Λ d E nL Q pc2 ls (.int v :: st) σ) : Rf Λ d E nL Q pc ls st σ := by
  subst hp
  obtain ⟨p, l, e, s, m, args, below, meth, c, D, tc, ad, b0⟩ := E
  intro H locs la hP hS hl
  obtain ⟨hx, hb, hr, hml, hown, hts, hlk, hK, hI, hz, hSt⟩ := X
  exact lv_iconst hx hb hd hv (k H locs la hP hS hl)
theorem Rf_bipush (X : rfX Λ E y cc nL ret) {n : Int} {v : Int32} (hv : (Int8.ofInt n).toInt32 = v) (hd : decode cc pc = .ok (.bipush n, 2)) (hp : pc + 2 = pc2) (k : Rf Λ d E nL Q pc2 ls (.int v :: st) σ) : Rf Λ d E nL Q pc ls st σ := by
  subst hp
  obtain ⟨p, l, e, s, m, args, below, meth, c, D, tc, ad, b0⟩ := E
  intro H locs la hP hS hl
  obtain ⟨hx, hb, hr, hml, hown, hts, hlk, hK, hI, hz, hSt⟩ := X
  exact lv_bipush hx hb hd hv (k H locs la hP hS hl)
theorem Rf_sipush (X : rfX Λ E y cc nL ret) {n : Int} {v : Int32} (hv : (Int16.ofInt n).toInt32 = v) (hd : decode cc pc = .ok (.sipush n, 3)) (hp : pc + 3 = pc2) (k : Rf Λ d E nL Q pc2 ls (.int v :: st) σ) : Rf Λ d E nL Q pc ls st σ := by
  subst hp
  obtain ⟨p, l, e, s, m, args, below, meth, c, D, tc, ad, b0⟩ := E
  intro H locs la hP hS hl
  obtain ⟨hx, hb, hr, hml, hown, hts, hlk, hK, hI, hz, hSt⟩ := X
  exact lv_sipush hx hb hd hv (k H locs la hP hS hl)
theorem Rf_lconst (X : rfX Λ E y cc nL ret) {n : Fin 2} {v : Int64} (hv : Int64.ofNat (n : Nat) = v) (hd : decode cc pc = .ok (.lconst n, 1)) (hp : pc + 1 = pc2) (k : Rf Λ d E nL Q pc2 ls (.long v :: st) σ) : Rf Λ d E nL Q pc ls st σ := by
  subst hp
  obtain ⟨p, l, e, s, m, args, below, meth, c, D, tc, ad, b0⟩ := E
  intro H locs la hP hS hl
  obtain ⟨hx, hb, hr, hml, hown, hts, hlk, hK, hI, hz, hSt⟩ := X
  exact lv_lconst hx hb hd hv (k H locs la hP hS hl)
theorem Rf_ldc (X : rfX Λ E y cc nL ret) {ix : Nat} {v : Int32} (hw : Cond.constant y.cls ix v ∈ rfG) (hd : decode cc pc = .ok (.ldc ix, 2)) (hp : pc + 2 = pc2) (k : Rf Λ d E nL Q pc2 ls (.int v :: st) σ) : Rf Λ d E nL Q pc ls st σ := by
  subst hp
  obtain ⟨p, l, e, s, m, args, below, meth, c, D, tc, ad, b0⟩ := E
  intro H locs la hP hS hl
  obtain ⟨hx, hb, hr, hml, hown, hts, hlk, hK, hI, hz, hSt⟩ := X
  exact lv_ldc hx hb hown (hts _ hw) hd (k H locs la hP hS hl)
theorem Rf_ldcw (X : rfX Λ E y cc nL ret) {ix : Nat} {v : Int32} (hw : Cond.constant y.cls ix v ∈ rfG) (hd : decode cc pc = .ok (.ldc_w ix, 3)) (hp : pc + 3 = pc2) (k : Rf Λ d E nL Q pc2 ls (.int v :: st) σ) : Rf Λ d E nL Q pc ls st σ := by
  subst hp
  obtain ⟨p, l, e, s, m, args, below, meth, c, D, tc, ad, b0⟩ := E
  intro H locs la hP hS hl
  obtain ⟨hx, hb, hr, hml, hown, hts, hlk, hK, hI, hz, hSt⟩ := X
  exact lv_ldcw hx hb hown (hts _ hw) hd (k H locs la hP hS hl)
theorem Rf_ldc2 (X : rfX Λ E y cc nL ret) {ix : Nat} {v : Int64} (hw : Cond.constantLong y.cls ix v ∈ rfG) (hd : decode cc pc = .ok (.ldc2_w ix, 3)) (hp : pc + 3 = pc2) (k : Rf Λ d E nL Q pc2 ls (.long v :: st) σ) : Rf Λ d E nL Q pc ls st σ := by
  subst hp
  obtain ⟨p, l, e, s, m, args, below, meth, c, D, tc, ad, b0⟩ := E
  intro H locs la hP hS hl
  obtain ⟨hx, hb, hr, hml, hown, hts, hlk, hK, hI, hz, hSt⟩ := X
  exact lv_ldc2 hx hb hown (hts _ hw) hd (k H locs la hP hS hl)
theorem Rf_iload_n (X : rfX Λ E y cc nL ret) {n : Fin 4} {i j : Nat} {x : Int32} (hi : (n : Nat) = i) (hj : ls[j]? = some (i, .int x)) (hd : decode cc pc = .ok (.iload_n n, 1)) (hp : pc + 1 = pc2) (k : Rf Λ d E nL Q pc2 ls (.int x :: st) σ) : Rf Λ d E nL Q pc ls st σ := by
  subst hp
  obtain ⟨p, l, e, s, m, args, below, meth, c, D, tc, ad, b0⟩ := E
  intro H locs la hP hS hl
  obtain ⟨hx, hb, hr, hml, hown, hts, hlk, hK, hI, hz, hSt⟩ := X
  exact lv_iload_n hx hb hd hi (lv_at hl j (rf_map hj)) (k H locs la hP hS hl)
theorem Rf_iload (X : rfX Λ E y cc nL ret) {i j : Nat} {x : Int32} (hj : ls[j]? = some (i, .int x)) (hd : decode cc pc = .ok (.iload i, 2)) (hp : pc + 2 = pc2) (k : Rf Λ d E nL Q pc2 ls (.int x :: st) σ) : Rf Λ d E nL Q pc ls st σ := by
  subst hp
  obtain ⟨p, l, e, s, m, args, below, meth, c, D, tc, ad, b0⟩ := E
  intro H locs la hP hS hl
  obtain ⟨hx, hb, hr, hml, hown, hts, hlk, hK, hI, hz, hSt⟩ := X
  exact lv_iload hx hb hd (lv_at hl j (rf_map hj)) (k H locs la hP hS hl)
theorem Rf_lload_n (X : rfX Λ E y cc nL ret) {n : Fin 4} {i j : Nat} {x : Int64} (hi : (n : Nat) = i) (hj : ls[j]? = some (i, .long x)) (hd : decode cc pc = .ok (.lload_n n, 1)) (hp : pc + 1 = pc2) (k : Rf Λ d E nL Q pc2 ls (.long x :: st) σ) : Rf Λ d E nL Q pc ls st σ := by
  subst hp
  obtain ⟨p, l, e, s, m, args, below, meth, c, D, tc, ad, b0⟩ := E
  intro H locs la hP hS hl
  obtain ⟨hx, hb, hr, hml, hown, hts, hlk, hK, hI, hz, hSt⟩ := X
  exact lv_lload_n hx hb hd hi (lv_at hl j (rf_map hj)) (k H locs la hP hS hl)
theorem Rf_lload (X : rfX Λ E y cc nL ret) {i j : Nat} {x : Int64} (hj : ls[j]? = some (i, .long x)) (hd : decode cc pc = .ok (.lload i, 2)) (hp : pc + 2 = pc2) (k : Rf Λ d E nL Q pc2 ls (.long x :: st) σ) : Rf Λ d E nL Q pc ls st σ := by
  subst hp
  obtain ⟨p, l, e, s, m, args, below, meth, c, D, tc, ad, b0⟩ := E
  intro H locs la hP hS hl
  obtain ⟨hx, hb, hr, hml, hown, hts, hlk, hK, hI, hz, hSt⟩ := X
  exact lv_lload hx hb hd (lv_at hl j (rf_map hj)) (k H locs la hP hS hl)
theorem Rf_aload_n (X : rfX Λ E y cc nL ret) {n : Fin 4} {i j : Nat} {x : Nat} (hi : (n : Nat) = i) (hj : ls[j]? = some (i, .ref x)) (hd : decode cc pc = .ok (.aload_n n, 1)) (hp : pc + 1 = pc2) (k : Rf Λ d E nL Q pc2 ls (.ref x :: st) σ) : Rf Λ d E nL Q pc ls st σ := by
  subst hp
  obtain ⟨p, l, e, s, m, args, below, meth, c, D, tc, ad, b0⟩ := E
  intro H locs la hP hS hl
  obtain ⟨hx, hb, hr, hml, hown, hts, hlk, hK, hI, hz, hSt⟩ := X
  exact lv_aload_n hx hb hd hi (lv_at hl j (rf_map hj)) (k H locs la hP hS hl)
theorem Rf_aload (X : rfX Λ E y cc nL ret) {i j : Nat} {x : Nat} (hj : ls[j]? = some (i, .ref x)) (hd : decode cc pc = .ok (.aload i, 2)) (hp : pc + 2 = pc2) (k : Rf Λ d E nL Q pc2 ls (.ref x :: st) σ) : Rf Λ d E nL Q pc ls st σ := by
  subst hp
  obtain ⟨p, l, e, s, m, args, below, meth, c, D, tc, ad, b0⟩ := E
  intro H locs la hP hS hl
  obtain ⟨hx, hb, hr, hml, hown, hts, hlk, hK, hI, hz, hSt⟩ := X
  exact lv_aload hx hb hd (lv_at hl j (rf_map hj)) (k H locs la hP hS hl)
theorem Rf_istore_n (X : rfX Λ E y cc nL ret) {n : Fin 4} {i : Nat} (hi : (n : Nat) = i) {x : Int32} (hn : i < nL) (hls : (i, Value.int x) :: ls.filter (fun q => !(q.1 == i) && !(q.1 + 1 == i && q.2.category == 2)) = ls2) (hd : decode cc pc = .ok (.istore_n n, 1)) (hp : pc + 1 = pc2) (k : Rf Λ d E nL Q pc2 ls2 st σ) : Rf Λ d E nL Q pc ls (.int x :: st) σ := by
  subst hp
  obtain ⟨p, l, e, s, m, args, below, meth, c, D, tc, ad, b0⟩ := E
  intro H locs la hP hS hl
  obtain ⟨hx, hb, hr, hml, hown, hts, hlk, hK, hI, hz, hSt⟩ := X
  refine lv_istore_n hx hb hd hi hl hn (lv' := ls2.map (fun q => (q.1, rfV ad q.2))) ?_ (fun la2 hl2 => k H locs la2 hP hS hl2)
  rw [← hls, List.map_cons]
  exact congrArg _ (rf_filt (fun a b => !(a == i) && !(a + 1 == i && b == 2)))
theorem Rf_istore (X : rfX Λ E y cc nL ret) {i : Nat} {x : Int32} (hn : i < nL) (hls : (i, Value.int x) :: ls.filter (fun q => !(q.1 == i) && !(q.1 + 1 == i && q.2.category == 2)) = ls2) (hd : decode cc pc = .ok (.istore i, 2)) (hp : pc + 2 = pc2) (k : Rf Λ d E nL Q pc2 ls2 st σ) : Rf Λ d E nL Q pc ls (.int x :: st) σ := by
  subst hp
  obtain ⟨p, l, e, s, m, args, below, meth, c, D, tc, ad, b0⟩ := E
  intro H locs la hP hS hl
  obtain ⟨hx, hb, hr, hml, hown, hts, hlk, hK, hI, hz, hSt⟩ := X
  refine lv_istore hx hb hd hl hn (lv' := ls2.map (fun q => (q.1, rfV ad q.2))) ?_ (fun la2 hl2 => k H locs la2 hP hS hl2)
  rw [← hls, List.map_cons]
  exact congrArg _ (rf_filt (fun a b => !(a == i) && !(a + 1 == i && b == 2)))
theorem Rf_astore_n (X : rfX Λ E y cc nL ret) {n : Fin 4} {i : Nat} (hi : (n : Nat) = i) {x : Nat} (hn : i < nL) (hls : (i, Value.ref x) :: ls.filter (fun q => !(q.1 == i) && !(q.1 + 1 == i && q.2.category == 2)) = ls2) (hd : decode cc pc = .ok (.astore_n n, 1)) (hp : pc + 1 = pc2) (k : Rf Λ d E nL Q pc2 ls2 st σ) : Rf Λ d E nL Q pc ls (.ref x :: st) σ := by
  subst hp
  obtain ⟨p, l, e, s, m, args, below, meth, c, D, tc, ad, b0⟩ := E
  intro H locs la hP hS hl
  obtain ⟨hx, hb, hr, hml, hown, hts, hlk, hK, hI, hz, hSt⟩ := X
  refine lv_astore_n hx hb hd hi hl hn (lv' := ls2.map (fun q => (q.1, rfV ad q.2))) ?_ (fun la2 hl2 => k H locs la2 hP hS hl2)
  rw [← hls, List.map_cons]
  exact congrArg _ (rf_filt (fun a b => !(a == i) && !(a + 1 == i && b == 2)))
theorem Rf_astore (X : rfX Λ E y cc nL ret) {i : Nat} {x : Nat} (hn : i < nL) (hls : (i, Value.ref x) :: ls.filter (fun q => !(q.1 == i) && !(q.1 + 1 == i && q.2.category == 2)) = ls2) (hd : decode cc pc = .ok (.astore i, 2)) (hp : pc + 2 = pc2) (k : Rf Λ d E nL Q pc2 ls2 st σ) : Rf Λ d E nL Q pc ls (.ref x :: st) σ := by
  subst hp
  obtain ⟨p, l, e, s, m, args, below, meth, c, D, tc, ad, b0⟩ := E
  intro H locs la hP hS hl
  obtain ⟨hx, hb, hr, hml, hown, hts, hlk, hK, hI, hz, hSt⟩ := X
  refine lv_astore hx hb hd hl hn (lv' := ls2.map (fun q => (q.1, rfV ad q.2))) ?_ (fun la2 hl2 => k H locs la2 hP hS hl2)
  rw [← hls, List.map_cons]
  exact congrArg _ (rf_filt (fun a b => !(a == i) && !(a + 1 == i && b == 2)))
theorem Rf_lstore_n (X : rfX Λ E y cc nL ret) {n : Fin 4} {i : Nat} (hi : (n : Nat) = i) {x : Int64} (hn : i + 1 < nL) (hls : (i, Value.long x) :: ls.filter (fun q => !(q.1 == i) && (!(q.1 == i + 1) && !(q.1 + 1 == i && q.2.category == 2))) = ls2) (hd : decode cc pc = .ok (.lstore_n n, 1)) (hp : pc + 1 = pc2) (k : Rf Λ d E nL Q pc2 ls2 st σ) : Rf Λ d E nL Q pc ls (.long x :: st) σ := by
  subst hp
  obtain ⟨p, l, e, s, m, args, below, meth, c, D, tc, ad, b0⟩ := E
  intro H locs la hP hS hl
  obtain ⟨hx, hb, hr, hml, hown, hts, hlk, hK, hI, hz, hSt⟩ := X
  refine lv_lstore_n hx hb hd hi hl hn (lv' := ls2.map (fun q => (q.1, rfV ad q.2))) ?_ (fun la2 hl2 => k H locs la2 hP hS hl2)
  rw [← hls, List.map_cons]
  exact congrArg _ (rf_filt (fun a b => !(a == i) && (!(a == i + 1) && !(a + 1 == i && b == 2))))
theorem Rf_lstore (X : rfX Λ E y cc nL ret) {i : Nat} {x : Int64} (hn : i + 1 < nL) (hls : (i, Value.long x) :: ls.filter (fun q => !(q.1 == i) && (!(q.1 == i + 1) && !(q.1 + 1 == i && q.2.category == 2))) = ls2) (hd : decode cc pc = .ok (.lstore i, 2)) (hp : pc + 2 = pc2) (k : Rf Λ d E nL Q pc2 ls2 st σ) : Rf Λ d E nL Q pc ls (.long x :: st) σ := by
  subst hp
  obtain ⟨p, l, e, s, m, args, below, meth, c, D, tc, ad, b0⟩ := E
  intro H locs la hP hS hl
  obtain ⟨hx, hb, hr, hml, hown, hts, hlk, hK, hI, hz, hSt⟩ := X
  refine lv_lstore hx hb hd hl hn (lv' := ls2.map (fun q => (q.1, rfV ad q.2))) ?_ (fun la2 hl2 => k H locs la2 hP hS hl2)
  rw [← hls, List.map_cons]
  exact congrArg _ (rf_filt (fun a b => !(a == i) && (!(a == i + 1) && !(a + 1 == i && b == 2))))
theorem Rf_iinc (X : rfX Λ E y cc nL ret) {i j : Nat} {n : Int} {x v : Int32} (hj : ls[j]? = some (i, .int x)) (hv : x + Int32.ofInt n = v) (hn : i < nL) (hls : (i, Value.int v) :: ls.filter (fun q => !(q.1 == i) && !(q.1 + 1 == i && q.2.category == 2)) = ls2) (hd : decode cc pc = .ok (.iinc i n, 3)) (hp : pc + 3 = pc2) (k : Rf Λ d E nL Q pc2 ls2 st σ) : Rf Λ d E nL Q pc ls st σ := by
  subst hp
  obtain ⟨p, l, e, s, m, args, below, meth, c, D, tc, ad, b0⟩ := E
  intro H locs la hP hS hl
  obtain ⟨hx, hb, hr, hml, hown, hts, hlk, hK, hI, hz, hSt⟩ := X
  refine lv_iinc hx hb hd hl (rf_map hj) hv hn (lv' := ls2.map (fun q => (q.1, rfV ad q.2))) ?_ (fun la2 hl2 => k H locs la2 hP hS hl2)
  rw [← hls, List.map_cons]
  exact congrArg _ (rf_filt (fun a b => !(a == i) && !(a + 1 == i && b == 2)))
theorem Rf_iadd (X : rfX Λ E y cc nL ret) {x z : Int32} (hd : decode cc pc = .ok (.iadd, 1)) (hp : pc + 1 = pc2) (k : Rf Λ d E nL Q pc2 ls (.int (x + z) :: st) σ) : Rf Λ d E nL Q pc ls (.int z :: .int x :: st) σ := by
  subst hp
  obtain ⟨p, l, e, s, m, args, below, meth, c, D, tc, ad, b0⟩ := E
  intro H locs la hP hS hl
  obtain ⟨hx, hb, hr, hml, hown, hts, hlk, hK, hI, hz, hSt⟩ := X
  exact lv_iadd hx hb hd (k H locs la hP hS hl)
theorem Rf_isub (X : rfX Λ E y cc nL ret) {x z : Int32} (hd : decode cc pc = .ok (.isub, 1)) (hp : pc + 1 = pc2) (k : Rf Λ d E nL Q pc2 ls (.int (x - z) :: st) σ) : Rf Λ d E nL Q pc ls (.int z :: .int x :: st) σ := by
  subst hp
  obtain ⟨p, l, e, s, m, args, below, meth, c, D, tc, ad, b0⟩ := E
  intro H locs la hP hS hl
  obtain ⟨hx, hb, hr, hml, hown, hts, hlk, hK, hI, hz, hSt⟩ := X
  exact lv_isub hx hb hd (k H locs la hP hS hl)
theorem Rf_imul (X : rfX Λ E y cc nL ret) {x z : Int32} (hd : decode cc pc = .ok (.imul, 1)) (hp : pc + 1 = pc2) (k : Rf Λ d E nL Q pc2 ls (.int (x * z) :: st) σ) : Rf Λ d E nL Q pc ls (.int z :: .int x :: st) σ := by
  subst hp
  obtain ⟨p, l, e, s, m, args, below, meth, c, D, tc, ad, b0⟩ := E
  intro H locs la hP hS hl
  obtain ⟨hx, hb, hr, hml, hown, hts, hlk, hK, hI, hz, hSt⟩ := X
  exact lv_imul hx hb hd (k H locs la hP hS hl)
theorem Rf_iand (X : rfX Λ E y cc nL ret) {x z : Int32} (hd : decode cc pc = .ok (.iand, 1)) (hp : pc + 1 = pc2) (k : Rf Λ d E nL Q pc2 ls (.int (x &&& z) :: st) σ) : Rf Λ d E nL Q pc ls (.int z :: .int x :: st) σ := by
  subst hp
  obtain ⟨p, l, e, s, m, args, below, meth, c, D, tc, ad, b0⟩ := E
  intro H locs la hP hS hl
  obtain ⟨hx, hb, hr, hml, hown, hts, hlk, hK, hI, hz, hSt⟩ := X
  exact lv_iand hx hb hd (k H locs la hP hS hl)
theorem Rf_ior (X : rfX Λ E y cc nL ret) {x z : Int32} (hd : decode cc pc = .ok (.ior, 1)) (hp : pc + 1 = pc2) (k : Rf Λ d E nL Q pc2 ls (.int (x ||| z) :: st) σ) : Rf Λ d E nL Q pc ls (.int z :: .int x :: st) σ := by
  subst hp
  obtain ⟨p, l, e, s, m, args, below, meth, c, D, tc, ad, b0⟩ := E
  intro H locs la hP hS hl
  obtain ⟨hx, hb, hr, hml, hown, hts, hlk, hK, hI, hz, hSt⟩ := X
  exact lv_ior hx hb hd (k H locs la hP hS hl)
theorem Rf_ixor (X : rfX Λ E y cc nL ret) {x z : Int32} (hd : decode cc pc = .ok (.ixor, 1)) (hp : pc + 1 = pc2) (k : Rf Λ d E nL Q pc2 ls (.int (x ^^^ z) :: st) σ) : Rf Λ d E nL Q pc ls (.int z :: .int x :: st) σ := by
  subst hp
  obtain ⟨p, l, e, s, m, args, below, meth, c, D, tc, ad, b0⟩ := E
  intro H locs la hP hS hl
  obtain ⟨hx, hb, hr, hml, hown, hts, hlk, hK, hI, hz, hSt⟩ := X
  exact lv_ixor hx hb hd (k H locs la hP hS hl)
theorem Rf_ishl (X : rfX Λ E y cc nL ret) {x z : Int32} (hd : decode cc pc = .ok (.ishl, 1)) (hp : pc + 1 = pc2) (k : Rf Λ d E nL Q pc2 ls (.int (x <<< (z &&& 31)) :: st) σ) : Rf Λ d E nL Q pc ls (.int z :: .int x :: st) σ := by
  subst hp
  obtain ⟨p, l, e, s, m, args, below, meth, c, D, tc, ad, b0⟩ := E
  intro H locs la hP hS hl
  obtain ⟨hx, hb, hr, hml, hown, hts, hlk, hK, hI, hz, hSt⟩ := X
  exact lv_ishl hx hb hd (k H locs la hP hS hl)
theorem Rf_ishr (X : rfX Λ E y cc nL ret) {x z : Int32} (hd : decode cc pc = .ok (.ishr, 1)) (hp : pc + 1 = pc2) (k : Rf Λ d E nL Q pc2 ls (.int (x >>> (z &&& 31)) :: st) σ) : Rf Λ d E nL Q pc ls (.int z :: .int x :: st) σ := by
  subst hp
  obtain ⟨p, l, e, s, m, args, below, meth, c, D, tc, ad, b0⟩ := E
  intro H locs la hP hS hl
  obtain ⟨hx, hb, hr, hml, hown, hts, hlk, hK, hI, hz, hSt⟩ := X
  exact lv_ishr hx hb hd (k H locs la hP hS hl)
theorem Rf_idiv (X : rfX Λ E y cc nL ret) {x z : Int32} (hne : ¬ z = 0) (hd : decode cc pc = .ok (.idiv, 1)) (hp : pc + 1 = pc2) (k : Rf Λ d E nL Q pc2 ls (.int (x / z) :: st) σ) : Rf Λ d E nL Q pc ls (.int z :: .int x :: st) σ := by
  subst hp
  obtain ⟨p, l, e, s, m, args, below, meth, c, D, tc, ad, b0⟩ := E
  intro H locs la hP hS hl
  obtain ⟨hx, hb, hr, hml, hown, hts, hlk, hK, hI, hz, hSt⟩ := X
  exact lv_idiv hx hb hd hne (k H locs la hP hS hl)
theorem Rf_irem (X : rfX Λ E y cc nL ret) {x z : Int32} (hne : ¬ z = 0) (hd : decode cc pc = .ok (.irem, 1)) (hp : pc + 1 = pc2) (k : Rf Λ d E nL Q pc2 ls (.int (x - x / z * z) :: st) σ) : Rf Λ d E nL Q pc ls (.int z :: .int x :: st) σ := by
  subst hp
  obtain ⟨p, l, e, s, m, args, below, meth, c, D, tc, ad, b0⟩ := E
  intro H locs la hP hS hl
  obtain ⟨hx, hb, hr, hml, hown, hts, hlk, hK, hI, hz, hSt⟩ := X
  exact lv_irem hx hb hd hne (k H locs la hP hS hl)
theorem Rf_ineg (X : rfX Λ E y cc nL ret) {x : Int32} (hd : decode cc pc = .ok (.ineg, 1)) (hp : pc + 1 = pc2) (k : Rf Λ d E nL Q pc2 ls (.int (-x) :: st) σ) : Rf Λ d E nL Q pc ls (.int x :: st) σ := by
  subst hp
  obtain ⟨p, l, e, s, m, args, below, meth, c, D, tc, ad, b0⟩ := E
  intro H locs la hP hS hl
  obtain ⟨hx, hb, hr, hml, hown, hts, hlk, hK, hI, hz, hSt⟩ := X
  exact lv_ineg hx hb hd (k H locs la hP hS hl)
theorem Rf_iushr (X : rfX Λ E y cc nL ret) {x z : Int32} (hd : decode cc pc = .ok (.iushr, 1)) (hp : pc + 1 = pc2) (k : Rf Λ d E nL Q pc2 ls (.int (x.toUInt32 >>> (z.toUInt32 &&& Int32.toUInt32 31)).toInt32 :: st) σ) : Rf Λ d E nL Q pc ls (.int z :: .int x :: st) σ := by
  subst hp
  obtain ⟨p, l, e, s, m, args, below, meth, c, D, tc, ad, b0⟩ := E
  intro H locs la hP hS hl
  obtain ⟨hx, hb, hr, hml, hown, hts, hlk, hK, hI, hz, hSt⟩ := X
  exact lv_iushr hx hb hd rfl (k H locs la hP hS hl)
theorem Rf_ladd (X : rfX Λ E y cc nL ret) {x z : Int64} (hd : decode cc pc = .ok (.ladd, 1)) (hp : pc + 1 = pc2) (k : Rf Λ d E nL Q pc2 ls (.long (x + z) :: st) σ) : Rf Λ d E nL Q pc ls (.long z :: .long x :: st) σ := by
  subst hp
  obtain ⟨p, l, e, s, m, args, below, meth, c, D, tc, ad, b0⟩ := E
  intro H locs la hP hS hl
  obtain ⟨hx, hb, hr, hml, hown, hts, hlk, hK, hI, hz, hSt⟩ := X
  exact lv_ladd hx hb hd (k H locs la hP hS hl)
theorem Rf_lsub (X : rfX Λ E y cc nL ret) {x z : Int64} (hd : decode cc pc = .ok (.lsub, 1)) (hp : pc + 1 = pc2) (k : Rf Λ d E nL Q pc2 ls (.long (x - z) :: st) σ) : Rf Λ d E nL Q pc ls (.long z :: .long x :: st) σ := by
  subst hp
  obtain ⟨p, l, e, s, m, args, below, meth, c, D, tc, ad, b0⟩ := E
  intro H locs la hP hS hl
  obtain ⟨hx, hb, hr, hml, hown, hts, hlk, hK, hI, hz, hSt⟩ := X
  exact lv_lsub hx hb hd (k H locs la hP hS hl)
theorem Rf_lmul (X : rfX Λ E y cc nL ret) {x z : Int64} (hd : decode cc pc = .ok (.lmul, 1)) (hp : pc + 1 = pc2) (k : Rf Λ d E nL Q pc2 ls (.long (x * z) :: st) σ) : Rf Λ d E nL Q pc ls (.long z :: .long x :: st) σ := by
  subst hp
  obtain ⟨p, l, e, s, m, args, below, meth, c, D, tc, ad, b0⟩ := E
  intro H locs la hP hS hl
  obtain ⟨hx, hb, hr, hml, hown, hts, hlk, hK, hI, hz, hSt⟩ := X
  exact lv_lmul hx hb hd (k H locs la hP hS hl)
theorem Rf_land (X : rfX Λ E y cc nL ret) {x z : Int64} (hd : decode cc pc = .ok (.land, 1)) (hp : pc + 1 = pc2) (k : Rf Λ d E nL Q pc2 ls (.long (x &&& z) :: st) σ) : Rf Λ d E nL Q pc ls (.long z :: .long x :: st) σ := by
  subst hp
  obtain ⟨p, l, e, s, m, args, below, meth, c, D, tc, ad, b0⟩ := E
  intro H locs la hP hS hl
  obtain ⟨hx, hb, hr, hml, hown, hts, hlk, hK, hI, hz, hSt⟩ := X
  exact lv_land hx hb hd (k H locs la hP hS hl)
theorem Rf_lor (X : rfX Λ E y cc nL ret) {x z : Int64} (hd : decode cc pc = .ok (.lor, 1)) (hp : pc + 1 = pc2) (k : Rf Λ d E nL Q pc2 ls (.long (x ||| z) :: st) σ) : Rf Λ d E nL Q pc ls (.long z :: .long x :: st) σ := by
  subst hp
  obtain ⟨p, l, e, s, m, args, below, meth, c, D, tc, ad, b0⟩ := E
  intro H locs la hP hS hl
  obtain ⟨hx, hb, hr, hml, hown, hts, hlk, hK, hI, hz, hSt⟩ := X
  exact lv_lor hx hb hd (k H locs la hP hS hl)
theorem Rf_lshl (X : rfX Λ E y cc nL ret) {x : Int64} {z : Int32} (hd : decode cc pc = .ok (.lshl, 1)) (hp : pc + 1 = pc2) (k : Rf Λ d E nL Q pc2 ls (.long (x <<< (z.toInt64 &&& 63)) :: st) σ) : Rf Λ d E nL Q pc ls (.int z :: .long x :: st) σ := by
  subst hp
  obtain ⟨p, l, e, s, m, args, below, meth, c, D, tc, ad, b0⟩ := E
  intro H locs la hP hS hl
  obtain ⟨hx, hb, hr, hml, hown, hts, hlk, hK, hI, hz, hSt⟩ := X
  exact lv_lshl hx hb hd rfl (k H locs la hP hS hl)
theorem Rf_lshr (X : rfX Λ E y cc nL ret) {x : Int64} {z : Int32} (hd : decode cc pc = .ok (.lshr, 1)) (hp : pc + 1 = pc2) (k : Rf Λ d E nL Q pc2 ls (.long (x >>> (z.toInt64 &&& 63)) :: st) σ) : Rf Λ d E nL Q pc ls (.int z :: .long x :: st) σ := by
  subst hp
  obtain ⟨p, l, e, s, m, args, below, meth, c, D, tc, ad, b0⟩ := E
  intro H locs la hP hS hl
  obtain ⟨hx, hb, hr, hml, hown, hts, hlk, hK, hI, hz, hSt⟩ := X
  exact lv_lshr hx hb hd rfl (k H locs la hP hS hl)
theorem Rf_lcmp (X : rfX Λ E y cc nL ret) {x z : Int64} (hd : decode cc pc = .ok (.lcmp, 1)) (hp : pc + 1 = pc2) (k : Rf Λ d E nL Q pc2 ls (.int (lg_cmp x z) :: st) σ) : Rf Λ d E nL Q pc ls (.long z :: .long x :: st) σ := by
  subst hp
  obtain ⟨p, l, e, s, m, args, below, meth, c, D, tc, ad, b0⟩ := E
  intro H locs la hP hS hl
  obtain ⟨hx, hb, hr, hml, hown, hts, hlk, hK, hI, hz, hSt⟩ := X
  exact W.lcmp hx hb hd (k H locs la hP hS hl)
theorem Rf_i2l (X : rfX Λ E y cc nL ret) {x : Int32} (hd : decode cc pc = .ok (.i2l, 1)) (hp : pc + 1 = pc2) (k : Rf Λ d E nL Q pc2 ls (.long x.toInt64 :: st) σ) : Rf Λ d E nL Q pc ls (.int x :: st) σ := by
  subst hp
  obtain ⟨p, l, e, s, m, args, below, meth, c, D, tc, ad, b0⟩ := E
  intro H locs la hP hS hl
  obtain ⟨hx, hb, hr, hml, hown, hts, hlk, hK, hI, hz, hSt⟩ := X
  exact lv_i2l hx hb hd rfl (k H locs la hP hS hl)
theorem Rf_l2i (X : rfX Λ E y cc nL ret) {x : Int64} (hd : decode cc pc = .ok (.l2i, 1)) (hp : pc + 1 = pc2) (k : Rf Λ d E nL Q pc2 ls (.int x.toInt32 :: st) σ) : Rf Λ d E nL Q pc ls (.long x :: st) σ := by
  subst hp
  obtain ⟨p, l, e, s, m, args, below, meth, c, D, tc, ad, b0⟩ := E
  intro H locs la hP hS hl
  obtain ⟨hx, hb, hr, hml, hown, hts, hlk, hK, hI, hz, hSt⟩ := X
  exact lv_l2i hx hb hd rfl (k H locs la hP hS hl)
theorem Rf_i2b (X : rfX Λ E y cc nL ret) {x : Int32} (hd : decode cc pc = .ok (.i2b, 1)) (hp : pc + 1 = pc2) (k : Rf Λ d E nL Q pc2 ls (.int x.toInt8.toInt32 :: st) σ) : Rf Λ d E nL Q pc ls (.int x :: st) σ := by
  subst hp
  obtain ⟨p, l, e, s, m, args, below, meth, c, D, tc, ad, b0⟩ := E
  intro H locs la hP hS hl
  obtain ⟨hx, hb, hr, hml, hown, hts, hlk, hK, hI, hz, hSt⟩ := X
  exact lv_i2b hx hb hd rfl (k H locs la hP hS hl)
theorem Rf_i2s (X : rfX Λ E y cc nL ret) {x : Int32} (hd : decode cc pc = .ok (.i2s, 1)) (hp : pc + 1 = pc2) (k : Rf Λ d E nL Q pc2 ls (.int x.toInt16.toInt32 :: st) σ) : Rf Λ d E nL Q pc ls (.int x :: st) σ := by
  subst hp
  obtain ⟨p, l, e, s, m, args, below, meth, c, D, tc, ad, b0⟩ := E
  intro H locs la hP hS hl
  obtain ⟨hx, hb, hr, hml, hown, hts, hlk, hK, hI, hz, hSt⟩ := X
  exact lv_i2s hx hb hd rfl (k H locs la hP hS hl)
theorem Rf_dup (X : rfX Λ E y cc nL ret) {a : Value} (ha : a.category = 1) (hd : decode cc pc = .ok (.dup, 1)) (hp : pc + 1 = pc2) (k : Rf Λ d E nL Q pc2 ls (a :: a :: st) σ) : Rf Λ d E nL Q pc ls (a :: st) σ := by
  subst hp
  obtain ⟨p, l, e, s, m, args, below, meth, c, D, tc, ad, b0⟩ := E
  intro H locs la hP hS hl
  obtain ⟨hx, hb, hr, hml, hown, hts, hlk, hK, hI, hz, hSt⟩ := X
  exact lv_dup hx hb hd ((rfV_cat ad _).trans ha) (k H locs la hP hS hl)
theorem Rf_pop (X : rfX Λ E y cc nL ret) {a : Value} (ha : a.category = 1) (hd : decode cc pc = .ok (.pop, 1)) (hp : pc + 1 = pc2) (k : Rf Λ d E nL Q pc2 ls st σ) : Rf Λ d E nL Q pc ls (a :: st) σ := by
  subst hp
  obtain ⟨p, l, e, s, m, args, below, meth, c, D, tc, ad, b0⟩ := E
  intro H locs la hP hS hl
  obtain ⟨hx, hb, hr, hml, hown, hts, hlk, hK, hI, hz, hSt⟩ := X
  exact lv_pop hx hb hd ((rfV_cat ad _).trans ha) (k H locs la hP hS hl)
theorem Rf_dup_x1 (X : rfX Λ E y cc nL ret) {a b : Value} (ha : a.category = 1) (hb2 : b.category = 1) (hd : decode cc pc = .ok (.dup_x1, 1)) (hp : pc + 1 = pc2) (k : Rf Λ d E nL Q pc2 ls (a :: b :: a :: st) σ) : Rf Λ d E nL Q pc ls (a :: b :: st) σ := by
  subst hp
  obtain ⟨p, l, e, s, m, args, below, meth, c, D, tc, ad, b0⟩ := E
  intro H locs la hP hS hl
  obtain ⟨hx, hb, hr, hml, hown, hts, hlk, hK, hI, hz, hSt⟩ := X
  exact lv_dup_x1 hx hb hd ((rfV_cat ad _).trans ha) ((rfV_cat ad _).trans hb2) (k H locs la hP hS hl)
theorem Rf_dup2 (X : rfX Λ E y cc nL ret) {a b : Value} (ha : a.category = 1) (hb2 : b.category = 1) (hd : decode cc pc = .ok (.dup2, 1)) (hp : pc + 1 = pc2) (k : Rf Λ d E nL Q pc2 ls (a :: b :: a :: b :: st) σ) : Rf Λ d E nL Q pc ls (a :: b :: st) σ := by
  subst hp
  obtain ⟨p, l, e, s, m, args, below, meth, c, D, tc, ad, b0⟩ := E
  intro H locs la hP hS hl
  obtain ⟨hx, hb, hr, hml, hown, hts, hlk, hK, hI, hz, hSt⟩ := X
  exact lv_dup2_11 hx hb hd ((rfV_cat ad _).trans ha) ((rfV_cat ad _).trans hb2) (k H locs la hP hS hl)
theorem Rf_icmp_eq (X : rfX Λ E y cc nL ret) {x z : Int32} {off : Int} {tgt : Nat} (hd : decode cc pc = .ok (.if_icmp .eq off, 3)) (ht : (pc : Int) + off = (tgt : Int)) (hp : pc + 3 = pc2) (kt : x = z → Rf Λ d E nL Q tgt ls st σ) (kf : ¬ (x = z) → Rf Λ d E nL Q pc2 ls st σ) : Rf Λ d E nL Q pc ls (.int z :: .int x :: st) σ := by
  subst hp
  obtain ⟨p, l, e, s, m, args, below, meth, c, D, tc, ad, b0⟩ := E
  intro H locs la hP hS hl
  obtain ⟨hx, hb, hr, hml, hown, hts, hlk, hK, hI, hz, hSt⟩ := X
  exact lv_icmp_eq hx hb hd ht (fun q => kt q H locs la hP hS hl) (fun q => kf q H locs la hP hS hl)
theorem Rf_if_eq (X : rfX Λ E y cc nL ret) {x : Int32} {off : Int} {tgt : Nat} (hd : decode cc pc = .ok (.ifCond .eq off, 3)) (ht : (pc : Int) + off = (tgt : Int)) (hp : pc + 3 = pc2) (kt : x = 0 → Rf Λ d E nL Q tgt ls st σ) (kf : ¬ (x = 0) → Rf Λ d E nL Q pc2 ls st σ) : Rf Λ d E nL Q pc ls (.int x :: st) σ := by
  subst hp
  obtain ⟨p, l, e, s, m, args, below, meth, c, D, tc, ad, b0⟩ := E
  intro H locs la hP hS hl
  obtain ⟨hx, hb, hr, hml, hown, hts, hlk, hK, hI, hz, hSt⟩ := X
  exact lv_if_eq hx hb hd ht (fun q => kt q H locs la hP hS hl) (fun q => kf q H locs la hP hS hl)
theorem Rf_icmp_ne (X : rfX Λ E y cc nL ret) {x z : Int32} {off : Int} {tgt : Nat} (hd : decode cc pc = .ok (.if_icmp .ne off, 3)) (ht : (pc : Int) + off = (tgt : Int)) (hp : pc + 3 = pc2) (kt : ¬ x = z → Rf Λ d E nL Q tgt ls st σ) (kf : x = z → Rf Λ d E nL Q pc2 ls st σ) : Rf Λ d E nL Q pc ls (.int z :: .int x :: st) σ := by
  subst hp
  obtain ⟨p, l, e, s, m, args, below, meth, c, D, tc, ad, b0⟩ := E
  intro H locs la hP hS hl
  obtain ⟨hx, hb, hr, hml, hown, hts, hlk, hK, hI, hz, hSt⟩ := X
  exact lv_icmp_ne hx hb hd ht (fun q => kt q H locs la hP hS hl) (fun q => kf q H locs la hP hS hl)
theorem Rf_if_ne (X : rfX Λ E y cc nL ret) {x : Int32} {off : Int} {tgt : Nat} (hd : decode cc pc = .ok (.ifCond .ne off, 3)) (ht : (pc : Int) + off = (tgt : Int)) (hp : pc + 3 = pc2) (kt : ¬ x = 0 → Rf Λ d E nL Q tgt ls st σ) (kf : x = 0 → Rf Λ d E nL Q pc2 ls st σ) : Rf Λ d E nL Q pc ls (.int x :: st) σ := by
  subst hp
  obtain ⟨p, l, e, s, m, args, below, meth, c, D, tc, ad, b0⟩ := E
  intro H locs la hP hS hl
  obtain ⟨hx, hb, hr, hml, hown, hts, hlk, hK, hI, hz, hSt⟩ := X
  exact lv_if_ne hx hb hd ht (fun q => kt q H locs la hP hS hl) (fun q => kf q H locs la hP hS hl)
theorem Rf_icmp_lt (X : rfX Λ E y cc nL ret) {x z : Int32} {off : Int} {tgt : Nat} (hd : decode cc pc = .ok (.if_icmp .lt off, 3)) (ht : (pc : Int) + off = (tgt : Int)) (hp : pc + 3 = pc2) (kt : x < z → Rf Λ d E nL Q tgt ls st σ) (kf : ¬ (x < z) → Rf Λ d E nL Q pc2 ls st σ) : Rf Λ d E nL Q pc ls (.int z :: .int x :: st) σ := by
  subst hp
  obtain ⟨p, l, e, s, m, args, below, meth, c, D, tc, ad, b0⟩ := E
  intro H locs la hP hS hl
  obtain ⟨hx, hb, hr, hml, hown, hts, hlk, hK, hI, hz, hSt⟩ := X
  exact lv_icmp_lt hx hb hd ht (fun q => kt q H locs la hP hS hl) (fun q => kf q H locs la hP hS hl)
theorem Rf_if_lt (X : rfX Λ E y cc nL ret) {x : Int32} {off : Int} {tgt : Nat} (hd : decode cc pc = .ok (.ifCond .lt off, 3)) (ht : (pc : Int) + off = (tgt : Int)) (hp : pc + 3 = pc2) (kt : x < 0 → Rf Λ d E nL Q tgt ls st σ) (kf : ¬ (x < 0) → Rf Λ d E nL Q pc2 ls st σ) : Rf Λ d E nL Q pc ls (.int x :: st) σ := by
  subst hp
  obtain ⟨p, l, e, s, m, args, below, meth, c, D, tc, ad, b0⟩ := E
  intro H locs la hP hS hl
  obtain ⟨hx, hb, hr, hml, hown, hts, hlk, hK, hI, hz, hSt⟩ := X
  exact lv_if_lt hx hb hd ht (fun q => kt q H locs la hP hS hl) (fun q => kf q H locs la hP hS hl)
theorem Rf_icmp_ge (X : rfX Λ E y cc nL ret) {x z : Int32} {off : Int} {tgt : Nat} (hd : decode cc pc = .ok (.if_icmp .ge off, 3)) (ht : (pc : Int) + off = (tgt : Int)) (hp : pc + 3 = pc2) (kt : z ≤ x → Rf Λ d E nL Q tgt ls st σ) (kf : ¬ (z ≤ x) → Rf Λ d E nL Q pc2 ls st σ) : Rf Λ d E nL Q pc ls (.int z :: .int x :: st) σ := by
  subst hp
  obtain ⟨p, l, e, s, m, args, below, meth, c, D, tc, ad, b0⟩ := E
  intro H locs la hP hS hl
  obtain ⟨hx, hb, hr, hml, hown, hts, hlk, hK, hI, hz, hSt⟩ := X
  exact lv_icmp_ge hx hb hd ht (fun q => kt q H locs la hP hS hl) (fun q => kf q H locs la hP hS hl)
theorem Rf_if_ge (X : rfX Λ E y cc nL ret) {x : Int32} {off : Int} {tgt : Nat} (hd : decode cc pc = .ok (.ifCond .ge off, 3)) (ht : (pc : Int) + off = (tgt : Int)) (hp : pc + 3 = pc2) (kt : 0 ≤ x → Rf Λ d E nL Q tgt ls st σ) (kf : ¬ (0 ≤ x) → Rf Λ d E nL Q pc2 ls st σ) : Rf Λ d E nL Q pc ls (.int x :: st) σ := by
  subst hp
  obtain ⟨p, l, e, s, m, args, below, meth, c, D, tc, ad, b0⟩ := E
  intro H locs la hP hS hl
  obtain ⟨hx, hb, hr, hml, hown, hts, hlk, hK, hI, hz, hSt⟩ := X
  exact lv_if_ge hx hb hd ht (fun q => kt q H locs la hP hS hl) (fun q => kf q H locs la hP hS hl)
theorem Rf_icmp_gt (X : rfX Λ E y cc nL ret) {x z : Int32} {off : Int} {tgt : Nat} (hd : decode cc pc = .ok (.if_icmp .gt off, 3)) (ht : (pc : Int) + off = (tgt : Int)) (hp : pc + 3 = pc2) (kt : z < x → Rf Λ d E nL Q tgt ls st σ) (kf : ¬ (z < x) → Rf Λ d E nL Q pc2 ls st σ) : Rf Λ d E nL Q pc ls (.int z :: .int x :: st) σ := by
  subst hp
  obtain ⟨p, l, e, s, m, args, below, meth, c, D, tc, ad, b0⟩ := E
  intro H locs la hP hS hl
  obtain ⟨hx, hb, hr, hml, hown, hts, hlk, hK, hI, hz, hSt⟩ := X
  exact lv_icmp_gt hx hb hd ht (fun q => kt q H locs la hP hS hl) (fun q => kf q H locs la hP hS hl)
theorem Rf_if_gt (X : rfX Λ E y cc nL ret) {x : Int32} {off : Int} {tgt : Nat} (hd : decode cc pc = .ok (.ifCond .gt off, 3)) (ht : (pc : Int) + off = (tgt : Int)) (hp : pc + 3 = pc2) (kt : 0 < x → Rf Λ d E nL Q tgt ls st σ) (kf : ¬ (0 < x) → Rf Λ d E nL Q pc2 ls st σ) : Rf Λ d E nL Q pc ls (.int x :: st) σ := by
  subst hp
  obtain ⟨p, l, e, s, m, args, below, meth, c, D, tc, ad, b0⟩ := E
  intro H locs la hP hS hl
  obtain ⟨hx, hb, hr, hml, hown, hts, hlk, hK, hI, hz, hSt⟩ := X
  exact lv_if_gt hx hb hd ht (fun q => kt q H locs la hP hS hl) (fun q => kf q H locs la hP hS hl)
theorem Rf_icmp_le (X : rfX Λ E y cc nL ret) {x z : Int32} {off : Int} {tgt : Nat} (hd : decode cc pc = .ok (.if_icmp .le off, 3)) (ht : (pc : Int) + off = (tgt : Int)) (hp : pc + 3 = pc2) (kt : x ≤ z → Rf Λ d E nL Q tgt ls st σ) (kf : ¬ (x ≤ z) → Rf Λ d E nL Q pc2 ls st σ) : Rf Λ d E nL Q pc ls (.int z :: .int x :: st) σ := by
  subst hp
  obtain ⟨p, l, e, s, m, args, below, meth, c, D, tc, ad, b0⟩ := E
  intro H locs la hP hS hl
  obtain ⟨hx, hb, hr, hml, hown, hts, hlk, hK, hI, hz, hSt⟩ := X
  exact lv_icmp_le hx hb hd ht (fun q => kt q H locs la hP hS hl) (fun q => kf q H locs la hP hS hl)
theorem Rf_if_le (X : rfX Λ E y cc nL ret) {x : Int32} {off : Int} {tgt : Nat} (hd : decode cc pc = .ok (.ifCond .le off, 3)) (ht : (pc : Int) + off = (tgt : Int)) (hp : pc + 3 = pc2) (kt : x ≤ 0 → Rf Λ d E nL Q tgt ls st σ) (kf : ¬ (x ≤ 0) → Rf Λ d E nL Q pc2 ls st σ) : Rf Λ d E nL Q pc ls (.int x :: st) σ := by
  subst hp
  obtain ⟨p, l, e, s, m, args, below, meth, c, D, tc, ad, b0⟩ := E
  intro H locs la hP hS hl
  obtain ⟨hx, hb, hr, hml, hown, hts, hlk, hK, hI, hz, hSt⟩ := X
  exact lv_if_le hx hb hd ht (fun q => kt q H locs la hP hS hl) (fun q => kf q H locs la hP hS hl)
theorem Rf_goto (X : rfX Λ E y cc nL ret) {off : Int} {tgt : Nat} (hd : decode cc pc = .ok (.goto off, 3)) (ht : (pc : Int) + off = (tgt : Int)) (k : Rf Λ d E nL Q tgt ls st σ) : Rf Λ d E nL Q pc ls st σ := by
  obtain ⟨p, l, e, s, m, args, below, meth, c, D, tc, ad, b0⟩ := E
  intro H locs la hP hS hl
  exact lv_goto X.1 X.2.1 hd ht (k H locs la hP hS hl)
theorem Rf_sub (is : List Nat) (h : lv_pick ls is = ls2) (k : Rf Λ d E nL Q pc ls2 st σ) : Rf Λ d E nL Q pc ls st σ := by
  obtain ⟨p, l, e, s, m, args, below, meth, c, D, tc, ad, b0⟩ := E
  intro H locs la hP hS hl
  refine k H locs la hP hS (lv_sub hl is ?_)
  rw [← h]
  unfold lv_pick
  rw [List.map_filterMap]
  congr 1
  funext q
  simp [List.getElem?_map]
end RfRules
end
section

/-- what is known of class number ci -/
def rfCl (ci : Nat) (C : String) (T : u_T) (N : Nat) (ty : Nat → FieldType) : Prop := vwCl[ci]? = some (C, T, N) ∧ rfN ci = N ∧ (∀ w ∈ u_ws C T N, w ∈ rfG) ∧ (∀ k, k < N → parseFieldDescriptor (T k).2.2.1 = some (ty k)) ∧ (∀ a, a < N → ∀ b, b < N → a ≠ b → (T a).2.1 ≠ (T b).2.1)
theorem rf_ws {C : String} {T : u_T} {N : Nat} (h : ∀ w ∈ u_ws C T N, w ∈ lw_tbl) : ∀ w ∈ u_ws C T N, w ∈ rfG := by
  intro w hw
  refine rf_g (h w hw) ?_
  obtain ⟨k, -, rfl⟩ := List.mem_map.mp hw
  unfold u_lay
  split <;> rfl
section RfHeap
variable {Λ : rfL} {d : Nat} {E : rfE} {y : MethodName} {cc : ByteArray} {nL : Nat} {ret : Option FieldType} {Q : Option Value → rfS → Prop} {pc pc2 : Nat} {ls ls2 : List (Nat × Value)} {st : List Value} {σ : rfS}
theorem rfCell_obj {tc : Nat → ClassId} {ad : Nat → Nat} {k ci : Nat} (h : Λ.2.1 k = ci + 4) : rfCell Λ tc ad σ k = .inr (ci, (List.range (rfN ci)).map (fun j => rfV ad (rfFl Λ σ ci k j))) := by
  unfold rfCell
  rw [h]
theorem rfCell_i {tc : Nat → ClassId} {ad : Nat → Nat} {k : Nat} (h : Λ.2.1 k = 0) : rfCell Λ tc ad σ k = .inl (tc 0, Λ.2.2.1 k, .inl (σ.2.1 k)) := by
  unfold rfCell
  rw [h]
theorem rfCell_l {tc : Nat → ClassId} {ad : Nat → Nat} {k : Nat} (h : Λ.2.1 k = 1) : rfCell Λ tc ad σ k = .inl (tc 1, Λ.2.2.1 k, .inr (.inl (σ.2.2 k))) := by
  unfold rfCell
  rw [h]
theorem rfCell_2 {tc : Nat → ClassId} {ad : Nat → Nat} {k : Nat} (h : Λ.2.1 k = 2) : rfCell Λ tc ad σ k = .inl (tc 2, Λ.2.2.1 k, .inr (.inr (.inr (.inr (fun j => some (ad (Λ.2.2.2.2 k j))))))) := by
  unfold rfCell
  rw [h]
theorem rfCell_3 {tc : Nat → ClassId} {ad : Nat → Nat} {k : Nat} (h : Λ.2.1 k = 3) : rfCell Λ tc ad σ k = .inl (tc 3, Λ.2.2.1 k, .inr (.inr (.inr (.inr (fun j => some (ad (Λ.2.2.2.2 k j))))))) := by
  unfold rfCell
  rw [h]
/-- cells that a change of other places leaves as they are -/
theorem rfCell_eq {tc : Nat → ClassId} {ad : Nat → Nat} {σ2 : rfS} {j : Nat} (h1 : ∀ b, σ2.1 j b = σ.1 j b) (h2 : σ2.2.1 j = σ.2.1 j) (h3 : σ2.2.2 j = σ.2.2 j) : rfCell Λ tc ad σ2 j = rfCell Λ tc ad σ j := by
  unfold rfCell
  rw [h2, h3]
  split <;> try rfl
  refine congrArg Sum.inr (congrArg _ ?_)
  refine List.map_congr_left (fun a _ => ?_)
  unfold rfFl
  rw [h1]

theorem Rf_get (X : rfX Λ E y cc nL ret) {ci k j ix N : Nat} {C : String} {T : u_T} {ty : Nat → FieldType} (kc : rfCl ci C T N ty) (hk : k < Λ.1) (hkd : Λ.2.1 k = ci + 4) (hj : j < N) (hw : Cond.fieldLink y.cls ix (T j).1 (T j).2.1 (T j).2.2.1 ∈ rfG) {v : Value} (hv : rfFl Λ σ ci k j = v) (hd : decode cc pc = .ok (.getfield ix, 3)) (hp : pc + 3 = pc2) (kk : Rf Λ d E nL Q pc2 ls (v :: st) σ) : Rf Λ d E nL Q pc ls (.ref k :: st) σ := by
  subst hp
  obtain ⟨p, l, e, s, m, args, below, meth, c, D, tc, ad, b0⟩ := E
  intro H locs la hP hS hl
  obtain ⟨hx, hb, hr, hml, hown, hts, hlk, hK, hI, hz, hSt⟩ := X
  refine va_get (D := D) (cl := vwCl) (tys := rfT tc) hx hb hts kc.2.2.1 hown hK hP k (by rw [rfW_at hk, rfCell_obj hkd]) kc.1 j hj (hts _ hw) (fun _ h9 => h9) (v := rfV ad v) ?_ hd (kk H locs la hP hS hl)
  rw [kc.2.1, List.getElem?_map, List.getElem?_range hj, Option.map_some, hv]
theorem Rf_put (X : rfX Λ E y cc nL ret) {ci k j ix N : Nat} {C : String} {T : u_T} {ty : Nat → FieldType} (kc : rfCl ci C T N ty) (hk : k < Λ.1) (hkd : Λ.2.1 k = ci + 4) (hj : j < N) (hfin : (T j).2.2.2 = false) (hw : Cond.fieldLink y.cls ix (T j).1 (T j).2.1 (T j).2.2.1 ∈ rfG) {v : Int32} (hr : Λ.2.2.2.1 ci k j = none) (hn : narrow (ty j) (.int v) = .int v) (hf : fits (ty j) (.int v) = true) (hd : decode cc pc = .ok (.putfield ix, 3)) (hp : pc + 3 = pc2) (kk : Rf Λ d E nL Q pc2 ls st (sI σ k j v)) : Rf Λ d E nL Q pc ls (.int v :: .ref k :: st) σ := by
  subst hp
  obtain ⟨p, l, e, s, m, args, below, meth, c, D, tc, ad, b0⟩ := E
  intro H locs la hP hS hl
  obtain ⟨hx, hb, hrt, hml, hown, hts, hlk, hK, hI, hz, hSt⟩ := X
  refine va_put (D := D) (cl := vwCl) (tys := rfT tc) hx hb hts kc.2.2.1 ty kc.2.2.2.1 kc.2.2.2.2 hown hK hP (rfW_D (b0 := b0) σ hI) hS k (by rw [rfW_at hk, rfCell_obj hkd]) kc.1 j hj (hts _ hw) (fun _ h9 => h9) hfin (ty := ty j) (kc.2.2.2.1 j hj) hn hf (by simp [kc.2.1, hj]) hd (fun H1 locs1 hP1 _ hS1 => kk H1 locs1 la ?_ hS1 hl)
  have e : (rfW Λ tc ad σ).set k (ad k, .inr (ci, ((List.range (rfN ci)).map (fun j => rfV ad (rfFl Λ σ ci k j))).set j (.int v))) = rfW Λ tc ad (sI σ k j v) := by
    refine rfW_set ?_ (fun i hi => ?_)
    · rw [rfCell_obj hkd]
      refine congrArg Sum.inr (congrArg _ ?_)
      apply List.ext_getElem?
      intro i
      rw [List.getElem?_set]
      by_cases hji : j = i
      · subst hji
        rw [if_pos rfl, List.getElem?_map]
        have hjr : j < rfN ci := by rw [kc.2.1]; exact hj
        rw [List.getElem?_range hjr]
        simp only [List.length_map, List.length_range, hjr, if_true, Option.map_some]
        unfold rfFl
        rw [hr]
        simp [sI, rfV]
      · rw [if_neg hji, List.getElem?_map, List.getElem?_map]
        by_cases hin : i < rfN ci
        · rw [List.getElem?_range hin]
          simp only [Option.map_some]
          unfold rfFl
          simp [sI, Ne.symm hji]
        · rw [List.getElem?_eq_none (by simp; omega)]
          rfl
    · exact rfCell_eq (fun b => by simp [sI, hi]) rfl rfl
  rw [← e]
  exact hP1
theorem Rf_iaload (X : rfX Λ E y cc nL ret) {k : Nat} {i : Int32} (hk : k < Λ.1) (hkd : Λ.2.1 k = 0) {N : Nat} (hN : Λ.2.2.1 k = N) (hin : vp_in i N) (hd : decode cc pc = .ok (.iaload, 1)) (hp : pc + 1 = pc2) (kk : Rf Λ d E nL Q pc2 ls (.int (gF σ k i.toNatClampNeg) :: st) σ) : Rf Λ d E nL Q pc ls (.int i :: .ref k :: st) σ := by
  subst hp
  subst hN
  obtain ⟨p, l, e, s, m, args, below, meth, c, D, tc, ad, b0⟩ := E
  intro H locs la hP hS hl
  obtain ⟨hx, hb, hr, hml, hown, hts, hlk, hK, hI, hz, hSt⟩ := X
  exact va_iald (D := D) (cl := vwCl) (tys := rfT tc) hx hb hK hP k 0 (f := σ.2.1 k) (by rw [rfW_at hk, rfCell_i hkd]) rfl hin hd (kk H locs la hP hS hl)
theorem Rf_laload (X : rfX Λ E y cc nL ret) {k : Nat} {i : Int32} (hk : k < Λ.1) (hkd : Λ.2.1 k = 1) {N : Nat} (hN : Λ.2.2.1 k = N) (hin : vp_in i N) (hd : decode cc pc = .ok (.laload, 1)) (hp : pc + 1 = pc2) (kk : Rf Λ d E nL Q pc2 ls (.long (gL σ k i.toNatClampNeg) :: st) σ) : Rf Λ d E nL Q pc ls (.int i :: .ref k :: st) σ := by
  subst hp
  subst hN
  obtain ⟨p, l, e, s, m, args, below, meth, c, D, tc, ad, b0⟩ := E
  intro H locs la hP hS hl
  obtain ⟨hx, hb, hr, hml, hown, hts, hlk, hK, hI, hz, hSt⟩ := X
  exact va_lald (D := D) (cl := vwCl) (tys := rfT tc) hx hb hK hP k 1 (f := σ.2.2 k) (by rw [rfW_at hk, rfCell_l hkd]) rfl hin hd (kk H locs la hP hS hl)
theorem Rf_aaload2 (X : rfX Λ E y cc nL ret) {k : Nat} {i : Int32} (hk : k < Λ.1) (hkd : Λ.2.1 k = 2) {N : Nat} (hN : Λ.2.2.1 k = N) (hin : vp_in i N) (hd : decode cc pc = .ok (.aaload, 1)) (hp : pc + 1 = pc2) (kk : Rf Λ d E nL Q pc2 ls (.ref (Λ.2.2.2.2 k i.toNatClampNeg) :: st) σ) : Rf Λ d E nL Q pc ls (.int i :: .ref k :: st) σ := by
  subst hp
  subst hN
  obtain ⟨p, l, e, s, m, args, below, meth, c, D, tc, ad, b0⟩ := E
  intro H locs la hP hS hl
  obtain ⟨hx, hb, hr, hml, hown, hts, hlk, hK, hI, hz, hSt⟩ := X
  exact va_aldq (D := D) (cl := vwCl) (tys := rfT tc) hx hb hK hP k 2 (f := fun j => some (ad (Λ.2.2.2.2 k j))) (by rw [rfW_at hk, rfCell_2 hkd]) rfl hin hd (kk H locs la hP hS hl)
theorem Rf_aaload3 (X : rfX Λ E y cc nL ret) {k : Nat} {i : Int32} (hk : k < Λ.1) (hkd : Λ.2.1 k = 3) {N : Nat} (hN : Λ.2.2.1 k = N) (hin : vp_in i N) (hd : decode cc pc = .ok (.aaload, 1)) (hp : pc + 1 = pc2) (kk : Rf Λ d E nL Q pc2 ls (.ref (Λ.2.2.2.2 k i.toNatClampNeg) :: st) σ) : Rf Λ d E nL Q pc ls (.int i :: .ref k :: st) σ := by
  subst hp
  subst hN
  obtain ⟨p, l, e, s, m, args, below, meth, c, D, tc, ad, b0⟩ := E
  intro H locs la hP hS hl
  obtain ⟨hx, hb, hr, hml, hown, hts, hlk, hK, hI, hz, hSt⟩ := X
  exact va_aldq (D := D) (cl := vwCl) (tys := rfT tc) hx hb hK hP k 3 (f := fun j => some (ad (Λ.2.2.2.2 k j))) (by rw [rfW_at hk, rfCell_3 hkd]) rfl hin hd (kk H locs la hP hS hl)
theorem Rf_iastore (X : rfX Λ E y cc nL ret) {k : Nat} {i : Int32} {v : Int32} (hk : k < Λ.1) (hkd : Λ.2.1 k = 0) {N : Nat} (hN : Λ.2.2.1 k = N) (hin : vp_in i N) (hd : decode cc pc = .ok (.iastore, 1)) (hp : pc + 1 = pc2) (kk : Rf Λ d E nL Q pc2 ls st (sF σ k i.toNatClampNeg v)) : Rf Λ d E nL Q pc ls (.int v :: .int i :: .ref k :: st) σ := by
  subst hp
  subst hN
  obtain ⟨p, l, e, s, m, args, below, meth, c, D, tc, ad, b0⟩ := E
  intro H locs la hP hS hl
  obtain ⟨hx, hb, hr, hml, hown, hts, hlk, hK, hI, hz, hSt⟩ := X
  refine va_iast (D := D) (cl := vwCl) (tys := rfT tc) hx hb hK hP (rfW_D (b0 := b0) σ hI) hS k 0 (by rw [rfW_at hk, rfCell_i hkd]) rfl hin hd (fun H1 locs1 hP1 _ hS1 => kk H1 locs1 la ?_ hS1 hl)
  have e := rfW_set (Λ := Λ) (tc := tc) (ad := ad) (σ := σ) (σ' := sF σ k i.toNatClampNeg v) (k := k) rfl (fun j hj => rfCell_eq (fun b => rfl) (by simp [sF, hj]) (by simp [sF, hj]))
  rw [rfCell_i hkd] at e
  rw [← e]
  have h2 := hP1
  simpa [sF] using h2
theorem Rf_lastore (X : rfX Λ E y cc nL ret) {k : Nat} {i : Int32} {v : Int64} (hk : k < Λ.1) (hkd : Λ.2.1 k = 1) {N : Nat} (hN : Λ.2.2.1 k = N) (hin : vp_in i N) (hd : decode cc pc = .ok (.lastore, 1)) (hp : pc + 1 = pc2) (kk : Rf Λ d E nL Q pc2 ls st (sL σ k i.toNatClampNeg v)) : Rf Λ d E nL Q pc ls (.long v :: .int i :: .ref k :: st) σ := by
  subst hp
  subst hN
  obtain ⟨p, l, e, s, m, args, below, meth, c, D, tc, ad, b0⟩ := E
  intro H locs la hP hS hl
  obtain ⟨hx, hb, hr, hml, hown, hts, hlk, hK, hI, hz, hSt⟩ := X
  refine va_last (D := D) (cl := vwCl) (tys := rfT tc) hx hb hK hP (rfW_D (b0 := b0) σ hI) hS k 1 (by rw [rfW_at hk, rfCell_l hkd]) rfl hin hd (fun H1 locs1 hP1 _ hS1 => kk H1 locs1 la ?_ hS1 hl)
  have e := rfW_set (Λ := Λ) (tc := tc) (ad := ad) (σ := σ) (σ' := sL σ k i.toNatClampNeg v) (k := k) rfl (fun j hj => rfCell_eq (fun b => rfl) (by simp [sL, hj]) (by simp [sL, hj]))
  rw [rfCell_l hkd] at e
  rw [← e]
  have h2 := hP1
  simpa [sL] using h2
theorem Rf_getstatic (X : rfX Λ E y cc nL ret) {ix : Nat} {q : Nat × String × String × List Int32} (hq : q ∈ rfSL) (hw : Cond.fieldLink y.cls ix q.2.1 q.2.2.1 "[I" ∈ rfG) (hd : decode cc pc = .ok (.getstatic ix, 3)) (hp : pc + 3 = pc2) (kk : Rf Λ d E nL Q pc2 ls (.ref q.1 :: st) σ) : Rf Λ d E nL Q pc ls st σ := by
  subst hp
  obtain ⟨p, l, e, s, m, args, below, meth, c, D, tc, ad, b0⟩ := E
  intro H locs la hP hS hl
  obtain ⟨hx, hb, hr, hml, hown, hts, hlk, hK, hI, hz, hSt⟩ := X
  have hn : ∀ x, rfA Λ ad s.heap.size x → b0 ≤ x := by
    intro x hx1
    rcases hx1 with ⟨k, h1, rfl⟩ | h1
    · exact hI.2 k h1
    · omega
  exact va_gets hx hb ((hSt q hq).1.narrow hn) hS hown (hts _ hw) (fun _ h9 => h9) hd (kk H locs la hP hS hl)
theorem Rf_siaload (X : rfX Λ E y cc nL ret) {q : Nat × String × String × List Int32} (hq : q ∈ rfSL) {i : Int32} (hin : vp_in i q.2.2.2.length) (hd : decode cc pc = .ok (.iaload, 1)) (hp : pc + 1 = pc2) (kk : Rf Λ d E nL Q pc2 ls (.int (q.2.2.2.getD i.toNatClampNeg 0) :: st) σ) : Rf Λ d E nL Q pc ls (.int i :: .ref q.1 :: st) σ := by
  subst hp
  obtain ⟨p, l, e, s, m, args, below, meth, c, D, tc, ad, b0⟩ := E
  intro H locs la hP hS hl
  obtain ⟨hx, hb, hr, hml, hown, hts, hlk, hK, hI, hz, hSt⟩ := X
  have hn : ∀ x, rfA Λ ad s.heap.size x → b0 ≤ x := by
    intro x hx1
    rcases hx1 with ⟨k, h1, rfl⟩ | h1
    · exact hI.2 k h1
    · omega
  exact va_ti hx hb ((hSt q hq).2.narrow hn) hS hin rfl hd (kk H locs la hP hS hl)
theorem Rf_copyi (X : rfX Λ E y cc nL ret) {ix k k2 N N2 : Nat} {sp dp n : Int32} (hw : Cond.methodLink y.cls ix arraycopyName ∈ rfG) (hw2 : Cond.native arraycopyName ∈ rfG) (hw3 : Cond.static arraycopyName ∈ rfG) (hw4 : Cond.initialized "java/lang/System" ∈ rfG) (hk : k < Λ.1) (hkd : Λ.2.1 k = 0) (hN : Λ.2.2.1 k = N) (hk2 : k2 < Λ.1) (hkd2 : Λ.2.1 k2 = 0) (hN2 : Λ.2.2.1 k2 = N2) (h1 : ¬ sp < 0) (h2 : ¬ dp < 0) (h3 : ¬ n < 0) (h4 : sp.toNatClampNeg + n.toNatClampNeg ≤ N) (h5 : dp.toNatClampNeg + n.toNatClampNeg ≤ N2) (hd1 : 1 ≤ d) (hst : (st.map fun v => v.category).sum ≤ 8) (hd : decode cc pc = .ok (.invokestatic ix, 3)) (hp : pc + 3 = pc2) (kk : Rf Λ d E nL Q pc2 ls st (cF σ k k2 sp.toNatClampNeg dp.toNatClampNeg n.toNatClampNeg)) : Rf Λ d E nL Q pc ls (.int n :: .int dp :: .ref k2 :: .int sp :: .ref k :: st) σ := by
  subst hp
  subst hN
  subst hN2
  obtain ⟨p, l, e, s, m, args, below, meth, c, D, tc, ad, b0⟩ := E
  intro H locs la hP hS hl
  obtain ⟨hx, hb, hr, hml, hown, hts, hlk, hK, hI, hz, hSt⟩ := X
  have hcat : ((st.map (rfV ad)).map fun v => v.category).sum = (st.map fun v => v.category).sum := by
    rw [List.map_map]
    congr 1
    exact List.map_congr_left (fun v _ => rfV_cat ad v)
  refine va_copyi (D := D) (cl := vwCl) (tys := rfT tc) hx hb (hml.trans hl.1.symm) hown (hts _ hw) (hts _ hw2) (hts _ hw3) (hts _ hw4) hK hP (rfW_D (b0 := b0) σ hI) hS k k2 0 0 (by rw [rfW_at hk, rfCell_i hkd]) (by rw [rfW_at hk2, rfCell_i hkd2]) rfl rfl rfl h1 h2 h3 h4 h5 (fun i _ => rfl) (by show 1 ≤ d; exact hd1) (by rw [hcat]; show _ + (7 + 11) ≤ 64 * d; omega) hd (fun H1 locs1 hP1 _ hS1 => kk H1 locs1 la ?_ hS1 hl)
  have e := rfW_set (Λ := Λ) (tc := tc) (ad := ad) (σ := σ) (σ' := cF σ k k2 sp.toNatClampNeg dp.toNatClampNeg n.toNatClampNeg) (k := k2) rfl (fun j hj => rfCell_eq (fun b => rfl) (by simp [cF, hj]) (by simp [cF, hj]))
  rw [rfCell_i hkd2] at e
  rw [← e]
  have h9 := hP1
  simpa [cF] using h9
theorem Rf_copyl (X : rfX Λ E y cc nL ret) {ix k k2 N N2 : Nat} {sp dp n : Int32} (hw : Cond.methodLink y.cls ix arraycopyName ∈ rfG) (hw2 : Cond.native arraycopyName ∈ rfG) (hw3 : Cond.static arraycopyName ∈ rfG) (hw4 : Cond.initialized "java/lang/System" ∈ rfG) (hk : k < Λ.1) (hkd : Λ.2.1 k = 1) (hN : Λ.2.2.1 k = N) (hk2 : k2 < Λ.1) (hkd2 : Λ.2.1 k2 = 1) (hN2 : Λ.2.2.1 k2 = N2) (h1 : ¬ sp < 0) (h2 : ¬ dp < 0) (h3 : ¬ n < 0) (h4 : sp.toNatClampNeg + n.toNatClampNeg ≤ N) (h5 : dp.toNatClampNeg + n.toNatClampNeg ≤ N2) (hd1 : 1 ≤ d) (hst : (st.map fun v => v.category).sum ≤ 8) (hd : decode cc pc = .ok (.invokestatic ix, 3)) (hp : pc + 3 = pc2) (kk : Rf Λ d E nL Q pc2 ls st (cL σ k k2 sp.toNatClampNeg dp.toNatClampNeg n.toNatClampNeg)) : Rf Λ d E nL Q pc ls (.int n :: .int dp :: .ref k2 :: .int sp :: .ref k :: st) σ := by
  subst hp
  subst hN
  subst hN2
  obtain ⟨p, l, e, s, m, args, below, meth, c, D, tc, ad, b0⟩ := E
  intro H locs la hP hS hl
  obtain ⟨hx, hb, hr, hml, hown, hts, hlk, hK, hI, hz, hSt⟩ := X
  have hcat : ((st.map (rfV ad)).map fun v => v.category).sum = (st.map fun v => v.category).sum := by
    rw [List.map_map]
    congr 1
    exact List.map_congr_left (fun v _ => rfV_cat ad v)
  refine va_copyl (D := D) (cl := vwCl) (tys := rfT tc) hx hb (hml.trans hl.1.symm) hown (hts _ hw) (hts _ hw2) (hts _ hw3) (hts _ hw4) hK hP (rfW_D (b0 := b0) σ hI) hS k k2 1 1 (by rw [rfW_at hk, rfCell_l hkd]) (by rw [rfW_at hk2, rfCell_l hkd2]) rfl rfl rfl h1 h2 h3 h4 h5 (fun i _ => rfl) (by show 1 ≤ d; exact hd1) (by rw [hcat]; show _ + (7 + 11) ≤ 64 * d; omega) hd (fun H1 locs1 hP1 _ hS1 => kk H1 locs1 la ?_ hS1 hl)
  have e := rfW_set (Λ := Λ) (tc := tc) (ad := ad) (σ := σ) (σ' := cL σ k k2 sp.toNatClampNeg dp.toNatClampNeg n.toNatClampNeg) (k := k2) rfl (fun j hj => rfCell_eq (fun b => rfl) (by simp [cL, hj]) (by simp [cL, hj]))
  rw [rfCell_l hkd2] at e
  rw [← e]
  have h9 := hP1
  simpa [cL] using h9
theorem Rf_max (X : rfX Λ E y cc nL ret) {ix : Nat} {x z : Int32} (hw : Cond.methodLink y.cls ix Lib.Math.max.name ∈ rfG) (hw2 : Cond.static Lib.Math.max.name ∈ rfG) (hw3 : Cond.initialized "java/lang/Math" ∈ rfG) (hw4 : Cond.code Lib.Math.max.name Lib.Math.max.code 2 (some .int) ∈ rfG) (hd1 : 1 ≤ d) (hst : (st.map fun v => v.category).sum ≤ 8) (hd : decode cc pc = .ok (.invokestatic ix, 3)) (hp : pc + 3 = pc2) (kk : Rf Λ d E nL Q pc2 ls (.int (if x < z then z else x) :: st) σ) : Rf Λ d E nL Q pc ls (.int z :: .int x :: st) σ := by
  subst hp
  obtain ⟨p, l, e, s, m, args, below, meth, c, D, tc, ad, b0⟩ := E
  intro H locs la hP hS hl
  obtain ⟨hx, hb, hr, hml, hown, hts, hlk, hK, hI, hz, hSt⟩ := X
  have hcat : ((st.map (rfV ad)).map fun v => v.category).sum = (st.map fun v => v.category).sum := by
    rw [List.map_map]
    congr 1
    exact List.map_congr_left (fun v _ => rfV_cat ad v)
  exact va_mmax hx hb (hml.trans hl.1.symm) hown (hts _ hw) (hts _ hw2) (hts _ hw3) (hts _ hw4) (by show 1 ≤ d; exact hd1) (by rw [hcat]; show _ + 13 ≤ 64 * d; omega) (Nat.zero_le _) (Nat.zero_le _) hd (kk H locs la hP hS hl)
theorem Rf_min (X : rfX Λ E y cc nL ret) {ix : Nat} {x z : Int32} (hw : Cond.methodLink y.cls ix Lib.Math.min.name ∈ rfG) (hw2 : Cond.static Lib.Math.min.name ∈ rfG) (hw3 : Cond.initialized "java/lang/Math" ∈ rfG) (hw4 : Cond.code Lib.Math.min.name Lib.Math.min.code 2 (some .int) ∈ rfG) (hd1 : 1 ≤ d) (hst : (st.map fun v => v.category).sum ≤ 8) (hd : decode cc pc = .ok (.invokestatic ix, 3)) (hp : pc + 3 = pc2) (kk : Rf Λ d E nL Q pc2 ls (.int (if z < x then z else x) :: st) σ) : Rf Λ d E nL Q pc ls (.int z :: .int x :: st) σ := by
  subst hp
  obtain ⟨p, l, e, s, m, args, below, meth, c, D, tc, ad, b0⟩ := E
  intro H locs la hP hS hl
  obtain ⟨hx, hb, hr, hml, hown, hts, hlk, hK, hI, hz, hSt⟩ := X
  have hcat : ((st.map (rfV ad)).map fun v => v.category).sum = (st.map fun v => v.category).sum := by
    rw [List.map_map]
    congr 1
    exact List.map_congr_left (fun v _ => rfV_cat ad v)
  exact va_mmin hx hb (hml.trans hl.1.symm) hown (hts _ hw) (hts _ hw2) (hts _ hw3) (hts _ hw4) (by show 1 ≤ d; exact hd1) (by rw [hcat]; show _ + 13 ≤ 64 * d; omega) (Nat.zero_le _) (Nat.zero_le _) hd (kk H locs la hP hS hl)
theorem rf_end {p : Program} {l : Launch} {e : Env} {s : State} {m : MethodId} {args : Array Value} {below : List Frame} {meth : Method} {c : Code} {D : va_G} {tc : Nat → ClassId} {ad : Nat → Nat} {b0 : Nat} {H : Heap} {locs : List Loc} {r : Option Value} (X : rfX Λ (p, l, e, s, m, args, below, meth, c, D, tc, ad, b0) y cc nL ret) (hP : va_P D vwCl (rfW Λ tc ad σ) H) (hS : va_S (rfA Λ ad s.heap.size) s.heap H locs) (hq : Q r σ) {t : State} (ht : t.heap = H) (hW : s.WarmedH t.vm) : rfQ Λ D tc ad b0 s.heap.size Q args s (.returned (r.map (rfV ad))) t := by
  obtain ⟨hx, hb, hr, hml, hown, hts, hlk, hK, hI, hz, hSt⟩ := X
  have hn : ∀ x, rfA Λ ad s.heap.size x → b0 ≤ x := by
    intro x hx1
    rcases hx1 with ⟨k, h1, rfl⟩ | h1
    · exact hI.2 k h1
    · omega
  refine ⟨⟨r, σ, rfl, hq, by rw [ht]; exact hP, va_K.moved hW.alike hK, hI, by rw [ht]; exact Nat.le_trans hz hS.1, ?_⟩, hS.F ht⟩
  rw [ht]
  exact (hSt.kept (fun a h1 h2 => hS.2.1 a h1 (fun q => h2 (hn a q)))).moved hW.alike
theorem Rf_iret {ty : FieldType} (X : rfX Λ E y cc nL (some ty)) {v : Int32} (hn : narrow ty (.int v) = .int v) (hd : decode cc pc = .ok (.ireturn, 1)) (hq : Q (some (.int v)) σ) : Rf Λ d E nL Q pc ls [.int v] σ := by
  obtain ⟨p, l, e, s, m, args, below, meth, c, D, tc, ad, b0⟩ := E
  intro H locs la hP hS hl
  have X0 := X
  obtain ⟨hx, hb, hr, hml, hown, hts, hlk, hK, hI, hz, hSt⟩ := X
  exact W.zret hx hb hr hn (fun t ht hW => rf_end (r := some (.int v)) X0 hP hS hq ht hW) hS.2.2 hd hlk
theorem Rf_lret (X : rfX Λ E y cc nL (some .long)) {v : Int64} (hd : decode cc pc = .ok (.lreturn, 1)) (hq : Q (some (.long v)) σ) : Rf Λ d E nL Q pc ls [.long v] σ := by
  obtain ⟨p, l, e, s, m, args, below, meth, c, D, tc, ad, b0⟩ := E
  intro H locs la hP hS hl
  have X0 := X
  obtain ⟨hx, hb, hr, hml, hown, hts, hlk, hK, hI, hz, hSt⟩ := X
  exact W.lret hx hb hr (fun t ht hW => rf_end (r := some (.long v)) X0 hP hS hq ht hW) hS.2.2 hd hlk
theorem Rf_aret {C : String} (X : rfX Λ E y cc nL (some (.object C))) {k : Nat} (hd : decode cc pc = .ok (.areturn, 1)) (hq : Q (some (.ref k)) σ) : Rf Λ d E nL Q pc ls [.ref k] σ := by
  obtain ⟨p, l, e, s, m, args, below, meth, c, D, tc, ad, b0⟩ := E
  intro H locs la hP hS hl
  have X0 := X
  obtain ⟨hx, hb, hr, hml, hown, hts, hlk, hK, hI, hz, hSt⟩ := X
  exact W.aret hx hb hr (Or.inl ⟨_, rfl⟩) (Or.inr ⟨_, rfl⟩) (fun t ht hW => rf_end (r := some (.ref k)) X0 hP hS hq ht hW) hS.2.2 hd hlk
theorem Rf_vret (X : rfX Λ E y cc nL none) (hd : decode cc pc = .ok (.return_, 1)) (hq : Q none σ) : Rf Λ d E nL Q pc ls [] σ := by
  obtain ⟨p, l, e, s, m, args, below, meth, c, D, tc, ad, b0⟩ := E
  intro H locs la hP hS hl
  have X0 := X
  obtain ⟨hx, hb, hr, hml, hown, hts, hlk, hK, hI, hz, hSt⟩ := X
  exact W.vret hx hb hr (fun t ht hW => rf_end (r := none) X0 hP hS hq ht hW) hS.2.2 hd hlk
theorem RM.intro {as : List Value} (hy : plainName y.cls = true) (hnl : (lg_sl as).length ≤ nL) (h : ∀ E : rfE, rfX Λ E y cc nL ret → Rf Λ d E nL Q 0 (lv_args 0 as) [] σ) : RM Λ d y cc nL ret as σ Q := by
  intro l D tc ad b0 sz
  refine Met.ofW (cc := cc) (maxL := nL) (ret := ret) hy rfl ?_
  intro p e s m args below meth c s₁ B hml hv
  obtain ⟨rfl, hsz, hP, hK, hI, hz, hSt⟩ := hv
  have hts := atoms_spec (ws := Cond.code y cc nL ret :: rfG) B.pre
  have hown : s.vm.findClass y.cls = some m.cls := findClass_of_methodNamed B.named
  subst hsz
  have X : rfX Λ (p, l, e, s, m, (as.map (rfV ad)).toArray, below, meth, c, D, tc, ad, b0) y cc nL ret := ⟨B.exec, B.bytes, B.returns, hml, hown, fun w hw => hts w (List.mem_cons_of_mem _ hw), B.notSynchronized, hK, hI, hz, hSt⟩
  have hsl : (lg_sl (as.map (rfV ad))).length = (lg_sl as).length := by
    unfold lg_sl
    rw [List.length_flatMap, List.length_flatMap, List.map_map]
    congr 1
    refine List.map_congr_left (fun v _ => ?_)
    simp only [Function.comp, rfV_cat]
    split <;> rfl
  have hl := lv_entry (as.map (rfV ad)) (n := nL) (by rw [hsl]; exact hnl)
  rw [lg_entry_eq]
  generalize (lg_sl (as.map (rfV ad)) ++ List.replicate (nL - (lg_sl (as.map (rfV ad))).length) Slot.unset).toArray = la at hl ⊢
  have ha : ∀ (as : List Value) (n : Nat), lv_args n (as.map (rfV ad)) = (lv_args n as).map (fun q => (q.1, rfV ad q.2)) := by
    intro as
    induction as with
    | nil => intro n; rfl
    | cons v r ih =>
      intro n
      simp only [List.map_cons, lv_args, rfV_cat, ih]
  rw [ha] at hl
  exact h _ X s.heap [] la hP va_S.rf hl
theorem rf_run {p : Program} {l : Launch} {e : Env} {s : State} {m : MethodId} {args a : Array Value} {below : List Frame} {meth : Method} {c : Code} {D : va_G} {tc : Nat → ClassId} {ad : Nat → Nat} {b0 : Nat} {H : Heap} {locs : List Loc} {la : Array Slot} {rest st0 : List Value} {Q2 : Option Value → rfS → Prop}
    (hr : va_Run p l e (rfR d) s m args below meth c H locs 0 0 0 0 (F0 m pc la st0) (rest.map (rfV ad)) (rfQ Λ D tc ad b0 H.size Q2 a) (rfA Λ ad H.size)) (hS : va_S (rfA Λ ad s.heap.size) s.heap H locs) (hl : lv_has la nL (ls.map (fun q => (q.1, rfV ad q.2)))) (kk : ∀ r σ3, Q2 r σ3 → Rf Λ d (p, l, e, s, m, args, below, meth, c, D, tc, ad, b0) nL Q (pc + 3) ls (r.toList ++ rest) σ3) :
    W p l e (rfR d) s m args below meth c H locs 0 0 (MQ below (rfQ Λ D tc ad b0 s.heap.size Q) args s 0 0 (rfA Λ ad s.heap.size)) (F0 m pc la st0) := by
  intro T hT X
  obtain ⟨v, st₀, t, T', L, h0, X', hL, e1, e2, ⟨⟨r, σ3, hv, hq, hB⟩, hz, hk⟩, st⟩ := hr T hT X
  cases hv
  rw [h0] at hz hk
  have hA : ∀ q, q < H.size → rfA Λ ad H.size q → rfA Λ ad s.heap.size q := by
    intro q h1 h2
    rcases h2 with h2 | h2
    · exact Or.inl h2
    · omega
  have hf : ∀ q, rfA Λ ad H.size q → rfA Λ ad s.heap.size q := by
    intro q h2
    rcases h2 with h2 | h2
    · exact Or.inl h2
    · exact Or.inr (Nat.le_trans hS.1 h2)
  obtain ⟨t2, a1, b1⟩ := kk r σ3 hq T'.heap (locs ++ L) la (by rw [e1]; exact hB.1)
    ⟨Nat.le_trans hS.1 (by rw [e1]; exact hz), fun q h1 h2 => by rw [e1, hk q (Nat.lt_of_lt_of_le h1 hS.1) (fun z => h2 (hA q (Nat.lt_of_lt_of_le h1 hS.1) z))]; exact hS.2.1 q h1 h2, fun q hq => by
      rcases List.mem_append.mp hq with h | h
      · exact hS.2.2 q h
      · exact hf _ (hL q h)⟩ hl T' rfl X'
  refine ⟨t2, st t2 ?_, b1⟩
  have e9 : List.map (rfV ad) (r.toList ++ rest) = (r.map (rfV ad)).toList ++ rest.map (rfV ad) := by
    rw [List.map_append]
    cases r <;> rfl
  rw [e9] at a1
  exact a1
theorem Rf_callV (X : rfX Λ E y cc nL ret) {ix n2 d2 nL2 : Nat} {y2 : MethodName} {cc2 : ByteArray} {ret2 : Option FieldType} {as stk : List Value} {Q2 : Option Value → rfS → Prop} {k ci : Nat} {C : String} {T : u_T} {N : Nat} (hcl : vwCl[ci]? = some (C, T, N)) (hk : k < Λ.1) (hkd : Λ.2.1 k = ci + 4) (hM : RM Λ d2 y2 cc2 nL2 ret2 (.ref k :: as) σ Q2) (hdd : d2 + 1 ≤ d) (hnl : nL2 ≤ 45) (hw : Cond.methodLink y.cls ix y2 ∈ rfG) (hwi : Cond.instanceMethod y2 ∈ rfG) (hws : Cond.selects C y2 y2 ∈ rfG) (hwn : Cond.initialized C ∈ rfG) (hwc : Cond.code y2 cc2 nL2 ret2 ∈ rfG) (hdn : y2.cls = C ∧ y2.cls ≠ "java/lang/invoke/MethodHandle" ∧ y2.cls ≠ "java/lang/invoke/VarHandle" ∧ (parseMethodDescriptor y2.desc).map (fun d => d.parameters.length) = some n2) (hlen : as.length = n2) (hstk : stk = as.reverse ++ .ref k :: st) (hst : (st.map fun v => v.category).sum ≤ 8) (hd : decode cc pc = .ok (.invokevirtual ix, 3)) (hp : pc + 3 = pc2) (kk : ∀ r σ2, Q2 r σ2 → Rf Λ d E nL Q pc2 ls (r.toList ++ st) σ2) : Rf Λ d E nL Q pc ls stk σ := by
  subst hp
  subst hstk
  obtain ⟨p, l, e, s, m, args, below, meth, c, D, tc, ad, b0⟩ := E
  intro H locs la hP hS hl
  obtain ⟨hx, hb, hr, hml, hown, hts, hlk, hK, hI, hz, hSt⟩ := X
  have hblind : ∀ (as2 : List Value), FrameBlind (va_Pc (as2.map (rfV ad)) (fun U => U.heap.size = H.size ∧ rfB Λ D tc ad b0 σ U)) := by
    intro as2 a U g mk q
    obtain ⟨q0, q1, qP, qK, qI, qz, qS⟩ := q
    exact ⟨q0, q1, qP, va_K.moved (u := U) (U := U.calling g mk a) (Vm.Alike.refl U.vm) qK, qI, qz, rfSt.moved (s := U) (t := U.calling g mk a) (Vm.Alike.refl U.vm) qS⟩
  have hn : ∀ x, rfA Λ ad s.heap.size x → b0 ≤ x := by
    intro x hx1
    rcases hx1 with ⟨k, h1, rfl⟩ | h1
    · exact hI.2 k h1
    · omega
  have hB : ∀ U : State, U.heap = H → s.WarmedH U.vm → U.heap.size = H.size ∧ rfB Λ D tc ad b0 σ U := by
    intro U hU hW
    refine ⟨by rw [hU], by rw [hU]; exact hP, va_K.moved hW.alike hK, hI, by rw [hU]; exact Nat.le_trans hz hS.1, ?_⟩
    rw [hU]
    exact (hSt.kept (fun a h1 h2 => hS.2.1 a h1 (fun q => h2 (hn a q)))).moved hW.alike
  have hcat : ((st.map (rfV ad)).map fun v => v.category).sum = (st.map fun v => v.category).sum := by
    rw [List.map_map]
    congr 1
    exact List.map_congr_left (fun v _ => rfV_cat ad v)
  have hG : GoodIn rfG (Cond.code y2 cc2 nL2 ret2 :: rfG) := rf_good (fun w hw => by
    rcases List.mem_cons.mp hw with h | h
    · rw [h]; exact hwc
    · exact h)
  have hroom : (rfR d2).frames + 1 ≤ (rfR d).frames ∧ 8 + (nL2 + 11) + (rfR d2).locals ≤ (rfR d).locals := ⟨hdd, by show 8 + (nL2 + 11) + 64 * d2 ≤ 64 * d; omega⟩
  refine rf_run (la := la) (va_runV (As := as.map (rfV ad)) (rest := st.map (rfV ad)) (C := C) (b := ad k) ⟨hx, hb, hml, hown, hts⟩ (hM l D tc ad b0 H.size) (cwV n2 hts (C := C) (index := ix) (rf_good (fun w hw9 => ?_)) rfl rfl rfl hdn hroom) ⟨hblind _, va_recv hK hP hcl (q0 := k) (by rw [rfW_at hk, rfCell_obj hkd]), fun U hU hW => ⟨rfl, hB U hU hW⟩⟩ rfl (by rw [List.length_map]; exact hlen) hl.1 (by rw [List.map_append, List.map_reverse]; rfl) (lv_room (by rw [hcat]; exact hst)) hd ⟨Nat.zero_le _, Nat.zero_le _⟩) hS hl kk
  unfold wsV at hw9
  rcases List.mem_append.mp hw9 with h | h
  · simp only [List.mem_cons, List.not_mem_nil, or_false] at h
    rcases h with h | h | h | h
    · rw [h]; exact hw
    · rw [h]; exact hwi
    · rw [h]; exact hws
    · rw [h]; exact hwn
  · exact (hG w h).1
theorem Rf_callS (X : rfX Λ E y cc nL ret) {ix n2 d2 nL2 : Nat} {y2 : MethodName} {cc2 : ByteArray} {ret2 : Option FieldType} {as stk : List Value} {Q2 : Option Value → rfS → Prop} (hM : RM Λ d2 y2 cc2 nL2 ret2 as σ Q2) (hdd : d2 + 1 ≤ d) (hnl : nL2 ≤ 45) (hw : Cond.methodLink y.cls ix y2 ∈ rfG) (hws : Cond.static y2 ∈ rfG) (hwn : Cond.initialized y2.cls ∈ rfG) (hwc : Cond.code y2 cc2 nL2 ret2 ∈ rfG) (hdn : y2.cls ≠ "java/lang/invoke/MethodHandle" ∧ y2.cls ≠ "java/lang/invoke/VarHandle" ∧ (parseMethodDescriptor y2.desc).map (fun d => d.parameters.length) = some n2) (hlen : as.length = n2) (hstk : stk = as.reverse ++ st) (hst : (st.map fun v => v.category).sum ≤ 8) (hd : decode cc pc = .ok (.invokestatic ix, 3)) (hp : pc + 3 = pc2) (kk : ∀ r σ2, Q2 r σ2 → Rf Λ d E nL Q pc2 ls (r.toList ++ st) σ2) : Rf Λ d E nL Q pc ls stk σ := by
  subst hp
  subst hstk
  obtain ⟨p, l, e, s, m, args, below, meth, c, D, tc, ad, b0⟩ := E
  intro H locs la hP hS hl
  obtain ⟨hx, hb, hr, hml, hown, hts, hlk, hK, hI, hz, hSt⟩ := X
  have hblind : ∀ (as2 : List Value), FrameBlind (va_Pc (as2.map (rfV ad)) (fun U => U.heap.size = H.size ∧ rfB Λ D tc ad b0 σ U)) := by
    intro as2 a U g mk q
    obtain ⟨q0, q1, qP, qK, qI, qz, qS⟩ := q
    exact ⟨q0, q1, qP, va_K.moved (u := U) (U := U.calling g mk a) (Vm.Alike.refl U.vm) qK, qI, qz, rfSt.moved (s := U) (t := U.calling g mk a) (Vm.Alike.refl U.vm) qS⟩
  have hn : ∀ x, rfA Λ ad s.heap.size x → b0 ≤ x := by
    intro x hx1
    rcases hx1 with ⟨k, h1, rfl⟩ | h1
    · exact hI.2 k h1
    · omega
  have hB : ∀ U : State, U.heap = H → s.WarmedH U.vm → U.heap.size = H.size ∧ rfB Λ D tc ad b0 σ U := by
    intro U hU hW
    refine ⟨by rw [hU], by rw [hU]; exact hP, va_K.moved hW.alike hK, hI, by rw [hU]; exact Nat.le_trans hz hS.1, ?_⟩
    rw [hU]
    exact (hSt.kept (fun a h1 h2 => hS.2.1 a h1 (fun q => h2 (hn a q)))).moved hW.alike
  have hcat : ((st.map (rfV ad)).map fun v => v.category).sum = (st.map fun v => v.category).sum := by
    rw [List.map_map]
    congr 1
    exact List.map_congr_left (fun v _ => rfV_cat ad v)
  have hG : GoodIn rfG (Cond.code y2 cc2 nL2 ret2 :: rfG) := rf_good (fun w hw => by
    rcases List.mem_cons.mp hw with h | h
    · rw [h]; exact hwc
    · exact h)
  have hroom : (rfR d2).frames + 1 ≤ (rfR d).frames ∧ 8 + (nL2 + 11) + (rfR d2).locals ≤ (rfR d).locals := ⟨hdd, by show 8 + (nL2 + 11) + 64 * d2 ≤ 64 * d; omega⟩
  exact rf_run (la := la) (va_runS (As := as.map (rfV ad)) (rest := st.map (rfV ad)) ⟨hx, hb, hml, hown, hts⟩ (hM l D tc ad b0 H.size) ⟨callB_of n2 hts hG rfl rfl rfl (hts _ hwn) (hts _ hw) hdn hroom, hts _ hws⟩ ⟨hblind _, fun U hU hW => ⟨rfl, hB U hU hW⟩⟩ rfl (by rw [List.length_map]; exact hlen) hl.1 (by rw [List.map_append, List.map_reverse]) (lv_room (by rw [hcat]; exact hst)) hd ⟨Nat.zero_le _, Nat.zero_le _⟩) hS hl kk
end RfHeap
end
section

def rfSw : List (Int32 × Nat) → Nat → Int32 → (Nat → Prop) → Prop
  | [], dt, _, K => K dt
  | (v, t) :: r, dt, x, K => (x = v → K t) ∧ (¬ x = v → rfSw r dt x K)
def rfTg (sw : List (Int32 × Nat)) (dt : Nat) (z : Int) : Nat := ((sw.find? (fun q => q.1.toInt == z)).map (fun q => q.2)).getD dt
theorem rfSw_tg {sw : List (Int32 × Nat)} {dt : Nat} {x : Int32} {K : Nat → Prop} (h : rfSw sw dt x K) : K (rfTg sw dt x.toInt) := by
  induction sw with
  | nil => exact h
  | cons q r ih =>
    obtain ⟨v, t⟩ := q
    obtain ⟨h1, h2⟩ := h
    unfold rfTg
    rw [List.find?_cons]
    by_cases hx : x = v
    · subst hx
      simp
      exact h1 rfl
    · have : (v.toInt == x.toInt) = false := by
        simp only [beq_eq_false_iff_ne, ne_eq]
        intro q
        exact hx (Int32.toInt_inj.mp q.symm)
      simp only [this]
      exact ih (h2 hx)
theorem rfLk_tg (pc : Nat) (dflt : Int) (dt : Nat) (hdt : (pc : Int) + dflt = dt) : ∀ (ps : List (Int × Int)) (sw : List (Int32 × Nat)), ps.map (fun q => (q.1, (pc : Int) + q.2)) = sw.map (fun q => (q.1.toInt, (q.2 : Int))) → ∀ z : Int, (pc : Int) + Op.lookupswitch.offset ps dflt z = (rfTg sw dt z : Nat)
  | [], [], _, z => by simpa [Op.lookupswitch.offset_nil, rfTg] using hdt
  | [], _ :: _, h, _ => by cases h
  | _ :: _, [], h, _ => by cases h
  | (a, o) :: ps, (v, t) :: sw, h, z => by
    simp only [List.map_cons, List.cons.injEq, Prod.mk.injEq] at h
    obtain ⟨⟨h1, h2⟩, h3⟩ := h
    have ih := rfLk_tg pc dflt dt hdt ps sw h3 z
    rw [Op.lookupswitch.offset_cons]
    unfold rfTg at ih ⊢
    rw [List.find?_cons]
    by_cases hz : z = a
    · have hb : (v.toInt == z) = true := by rw [← h1, hz]; simp
      simp only [hb]
      rw [if_pos (by first | exact hz | exact hz.symm)]
      simpa using h2
    · have hb : (v.toInt == z) = false := by
        simp only [beq_eq_false_iff_ne, ne_eq]
        intro q
        exact hz (by rw [h1, q])
      simp only [hb]
      rw [if_neg (by first | exact hz | exact fun q => hz q.symm)]
      exact ih
section RfSwitch
variable {Λ : rfL} {d : Nat} {E : rfE} {y : MethodName} {cc : ByteArray} {nL : Nat} {ret : Option FieldType} {Q : Option Value → rfS → Prop} {pc pc2 : Nat} {ls ls2 : List (Nat × Value)} {st : List Value} {σ : rfS}

theorem Rf_lsw (X : rfX Λ E y cc nL ret) {dflt : Int} {ps : Array (Int × Int)} {len dt : Nat} {x : Int32} (sw : List (Int32 × Nat)) (hd : decode cc pc = .ok (.lookupswitch dflt ps, len)) (ho : (ps.toList.zip (ps.toList.drop 1)).all (fun (a, next) => a.1 < next.1) = true) (hdt : (pc : Int) + dflt = dt) (hsw : ps.toList.map (fun q => (q.1, (pc : Int) + q.2)) = sw.map (fun q => (q.1.toInt, (q.2 : Int)))) (k : rfSw sw dt x (fun t => Rf Λ d E nL Q t ls st σ)) : Rf Λ d E nL Q pc ls (.int x :: st) σ := by
  have k2 := rfSw_tg k
  obtain ⟨p, l, e, s, m, args, below, meth, c, D, tc, ad, b0⟩ := E
  intro H locs la hP hS hl
  obtain ⟨hx, hb, hr, hml, hown, hts, hlk, hK, hI, hz, hSt⟩ := X
  exact lv_lookup hx hb hd ho rfl (rfLk_tg pc dflt dt hdt _ sw hsw x.toInt) (k2 H locs la hP hS hl)
theorem Rf_tsw (X : rfX Λ E y cc nL ret) {dflt lo hi : Int} {offs : Array Int} {len dt : Nat} {x : Int32} (sw : List (Int32 × Nat)) (hd : decode cc pc = .ok (.tableswitch dflt lo hi offs, len)) (hdt : (pc : Int) + dflt = dt) (hsz : hi - lo + 1 = offs.size) (hin : (List.range offs.size).all (fun i => offs[i]? == some ((rfTg sw dt (lo + i) : Int) - pc)) = true) (hout : sw.all (fun q => decide (lo ≤ q.1.toInt) && decide (q.1.toInt ≤ hi)) = true) (k : rfSw sw dt x (fun t => Rf Λ d E nL Q t ls st σ)) : Rf Λ d E nL Q pc ls (.int x :: st) σ := by
  have k2 := rfSw_tg k
  obtain ⟨p, l, e, s, m, args, below, meth, c, D, tc, ad, b0⟩ := E
  intro H locs la hP hS hl
  obtain ⟨hx, hb, hr, hml, hown, hts, hlk, hK, hI, hz, hSt⟩ := X
  by_cases h : x.toInt < lo ∨ hi < x.toInt
  · have e : rfTg sw dt x.toInt = dt := by
      unfold rfTg
      rw [List.find?_eq_none.mpr]
      · rfl
      · intro q hq
        have h3 := List.all_eq_true.mp hout q hq
        simp only [Bool.and_eq_true, decide_eq_true_eq] at h3
        simp only [beq_iff_eq]
        omega
    rw [e] at k2
    exact lv_tableOut hx hb hd h hdt (k2 H locs la hP hS hl)
  · have h1 : ¬ x.toInt < lo := fun q => h (Or.inl q)
    have h2 : ¬ hi < x.toInt := fun q => h (Or.inr q)
    have hi2 : (x.toInt - lo).toNat < offs.size := by omega
    have h3 := List.all_eq_true.mp hin (x.toInt - lo).toNat (List.mem_range.mpr hi2)
    have e2 : lo + ((x.toInt - lo).toNat : Int) = x.toInt := by omega
    rw [e2] at h3
    exact lv_tableIn hx hb hd h1 h2 (beq_iff_eq.mp h3) (tgt := rfTg sw dt x.toInt) (by omega) (k2 H locs la hP hS hl)
theorem RM.weaken {as : List Value} {Q2 : Option Value → rfS → Prop} (h : RM Λ d y cc nL ret as σ Q2) (hq : ∀ r σ2, Q2 r σ2 → Q r σ2) : RM Λ d y cc nL ret as σ Q := by
  intro l D tc ad b0 sz
  intro p e ha hc hk s m args below hf happ hP hK
  obtain ⟨k, o, h1, h2, h3, ⟨⟨⟨r, σ2, ho, hq2, hB⟩, hF⟩, hL⟩⟩ := h l D tc ad b0 sz p e ha hc hk s m args below hf happ hP hK
  exact ⟨k, o, h1, h2, h3, ⟨⟨⟨r, σ2, ho, hq _ _ hq2, hB⟩, hF⟩, hL⟩⟩
end RfSwitch
def qi (Q : Int32 → rfS → Prop) : Option Value → rfS → Prop := fun r σ => ∃ v, r = some (.int v) ∧ Q v σ
def ql (Q : Int64 → rfS → Prop) : Option Value → rfS → Prop := fun r σ => ∃ v, r = some (.long v) ∧ Q v σ
def qr (Q : Nat → rfS → Prop) : Option Value → rfS → Prop := fun r σ => ∃ v, r = some (.ref v) ∧ Q v σ
def qv (Q : rfS → Prop) : Option Value → rfS → Prop := fun r σ => r = none ∧ Q σ
theorem kc0 : rfCl 0 RX0 TX0 4 tyX0 := ⟨rfl, rfl, rf_ws inX0, tyX0_ok, nmX0⟩
theorem kc1 : rfCl 1 RX1 TX1 6 tyX1 := ⟨rfl, rfl, rf_ws inX1, tyX1_ok, nmX1⟩
theorem kc2 : rfCl 2 RX2 TX2 7 tyX2 := ⟨rfl, rfl, rf_ws inX2, tyX2_ok, nmX2⟩
theorem kc3 : rfCl 3 RX3 TX3 8 tyX3 := ⟨rfl, rfl, rf_ws inX3, tyX3_ok, nmX3⟩
theorem kc4 : rfCl 4 RX4 TX4 4 tyX4 := ⟨rfl, rfl, rf_ws inX4, tyX4_ok, nmX4⟩
theorem kc5 : rfCl 5 RX5 TX5 4 tyX5 := ⟨rfl, rfl, rf_ws inX5, tyX5_ok, nmX5⟩
theorem kc6 : rfCl 6 RX6 TX6 10 tyX6 := ⟨rfl, rfl, rf_ws inX6, tyX6_ok, nmX6⟩
theorem kc7 : rfCl 7 RX7 TX7 11 tyX7 := ⟨rfl, rfl, rf_ws inX7, tyX7_ok, nmX7⟩
theorem kc8 : rfCl 8 RX8 TX8 43 tyX8 := ⟨rfl, rfl, rf_ws inX8, tyX8_ok, nmX8⟩
end

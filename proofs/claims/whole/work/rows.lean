section
-- ===== PART A: goes FIRST, ahead of the names: the tables' words, and 'selects' of the private methods out of them =====
/-- a private method of a class that the tables say can be made, by its rows of tables_1 -/
def lw_okq (q : MethodName × Nat) : Prop := (q.1.cls ≠ "java/lang/invoke/MethodHandle" ∧ q.1.cls ≠ "java/lang/invoke/VarHandle") ∧ Cond.instantiable q.1.cls q.2 ∈ tables_1 ∧ Cond.privateMethod q.1 ∈ tables_1 ∧ Cond.instanceMethod q.1 ∈ tables_1
theorem lw_p0 : lw_okq (⟨"OneLeg", "welcome", "(III)I"⟩, 11) := ⟨⟨by decide +kernel, by decide +kernel⟩, List.mem_of_getElem? (i := 14) (by decide +kernel), List.mem_of_getElem? (i := 285) (by decide +kernel), List.mem_of_getElem? (i := 286) (by decide +kernel)⟩
theorem lw_p1 : lw_okq (⟨"OneLeg", "comesFrom", "(LOneLeg$Shelf;I)Z"⟩, 11) := ⟨⟨by decide +kernel, by decide +kernel⟩, List.mem_of_getElem? (i := 14) (by decide +kernel), List.mem_of_getElem? (i := 296) (by decide +kernel), List.mem_of_getElem? (i := 297) (by decide +kernel)⟩
theorem lw_p2 : lw_okq (⟨"OneLeg", "isNumber", "(II)Z"⟩, 11) := ⟨⟨by decide +kernel, by decide +kernel⟩, List.mem_of_getElem? (i := 14) (by decide +kernel), List.mem_of_getElem? (i := 304) (by decide +kernel), List.mem_of_getElem? (i := 305) (by decide +kernel)⟩
theorem lw_p3 : lw_okq (⟨"OneLeg", "numberOf", "(II)I"⟩, 11) := ⟨⟨by decide +kernel, by decide +kernel⟩, List.mem_of_getElem? (i := 14) (by decide +kernel), List.mem_of_getElem? (i := 316) (by decide +kernel), List.mem_of_getElem? (i := 317) (by decide +kernel)⟩
theorem lw_p4 : lw_okq (⟨"OneLeg$Changes", "dropOldest", "()V"⟩, 6) := ⟨⟨by decide +kernel, by decide +kernel⟩, List.mem_of_getElem? (i := 163) (by decide +kernel), List.mem_of_getElem? (i := 324) (by decide +kernel), List.mem_of_getElem? (i := 325) (by decide +kernel)⟩
theorem lw_p5 : lw_okq (⟨"OneLeg", "become", "(III)V"⟩, 11) := ⟨⟨by decide +kernel, by decide +kernel⟩, List.mem_of_getElem? (i := 14) (by decide +kernel), List.mem_of_getElem? (i := 331) (by decide +kernel), List.mem_of_getElem? (i := 332) (by decide +kernel)⟩
theorem lw_p6 : lw_okq (⟨"OneLeg$Law", "readLines", "()Z"⟩, 8) := ⟨⟨by decide +kernel, by decide +kernel⟩, List.mem_of_getElem? (i := 28) (by decide +kernel), List.mem_of_getElem? (i := 355) (by decide +kernel), List.mem_of_getElem? (i := 356) (by decide +kernel)⟩
theorem lw_p7 : lw_okq (⟨"OneLeg$Law", "readLine", "()Z"⟩, 8) := ⟨⟨by decide +kernel, by decide +kernel⟩, List.mem_of_getElem? (i := 28) (by decide +kernel), List.mem_of_getElem? (i := 359) (by decide +kernel), List.mem_of_getElem? (i := 360) (by decide +kernel)⟩
theorem lw_p8 : lw_okq (⟨"OneLeg$Law", "readChain", "(II)Z"⟩, 8) := ⟨⟨by decide +kernel, by decide +kernel⟩, List.mem_of_getElem? (i := 28) (by decide +kernel), List.mem_of_getElem? (i := 363) (by decide +kernel), List.mem_of_getElem? (i := 364) (by decide +kernel)⟩
theorem lw_p9 : lw_okq (⟨"OneLeg$Law", "readOperand", "(I)Z"⟩, 8) := ⟨⟨by decide +kernel, by decide +kernel⟩, List.mem_of_getElem? (i := 28) (by decide +kernel), List.mem_of_getElem? (i := 367) (by decide +kernel), List.mem_of_getElem? (i := 368) (by decide +kernel)⟩
theorem lw_p10 : lw_okq (⟨"OneLeg$Law", "sign", "()I"⟩, 8) := ⟨⟨by decide +kernel, by decide +kernel⟩, List.mem_of_getElem? (i := 28) (by decide +kernel), List.mem_of_getElem? (i := 371) (by decide +kernel), List.mem_of_getElem? (i := 372) (by decide +kernel)⟩
theorem lw_p11 : lw_okq (⟨"OneLeg$Law", "readNumber", "()V"⟩, 8) := ⟨⟨by decide +kernel, by decide +kernel⟩, List.mem_of_getElem? (i := 28) (by decide +kernel), List.mem_of_getElem? (i := 378) (by decide +kernel), List.mem_of_getElem? (i := 379) (by decide +kernel)⟩
theorem lw_p12 : lw_okq (⟨"OneLeg$Law", "addStep", "(I)V"⟩, 8) := ⟨⟨by decide +kernel, by decide +kernel⟩, List.mem_of_getElem? (i := 28) (by decide +kernel), List.mem_of_getElem? (i := 382) (by decide +kernel), List.mem_of_getElem? (i := 383) (by decide +kernel)⟩
theorem lw_p13 : lw_okq (⟨"OneLeg$Law", "isAccepted", "(I)Z"⟩, 8) := ⟨⟨by decide +kernel, by decide +kernel⟩, List.mem_of_getElem? (i := 28) (by decide +kernel), List.mem_of_getElem? (i := 389) (by decide +kernel), List.mem_of_getElem? (i := 390) (by decide +kernel)⟩
theorem lw_p14 : lw_okq (⟨"OneLeg$Law", "endOfLine", "(I)I"⟩, 8) := ⟨⟨by decide +kernel, by decide +kernel⟩, List.mem_of_getElem? (i := 28) (by decide +kernel), List.mem_of_getElem? (i := 419) (by decide +kernel), List.mem_of_getElem? (i := 420) (by decide +kernel)⟩
theorem lw_p15 : lw_okq (⟨"OneLeg$Thought", "seekFrom", "(III)V"⟩, 10) := ⟨⟨by decide +kernel, by decide +kernel⟩, List.mem_of_getElem? (i := 119) (by decide +kernel), List.mem_of_getElem? (i := 491) (by decide +kernel), List.mem_of_getElem? (i := 492) (by decide +kernel)⟩
def lw_privs_1 : List (MethodName × Nat) := [(⟨"OneLeg", "welcome", "(III)I"⟩, 11), (⟨"OneLeg", "comesFrom", "(LOneLeg$Shelf;I)Z"⟩, 11), (⟨"OneLeg", "isNumber", "(II)Z"⟩, 11), (⟨"OneLeg", "numberOf", "(II)I"⟩, 11), (⟨"OneLeg$Changes", "dropOldest", "()V"⟩, 6), (⟨"OneLeg", "become", "(III)V"⟩, 11), (⟨"OneLeg$Law", "readLines", "()Z"⟩, 8), (⟨"OneLeg$Law", "readLine", "()Z"⟩, 8), (⟨"OneLeg$Law", "readChain", "(II)Z"⟩, 8), (⟨"OneLeg$Law", "readOperand", "(I)Z"⟩, 8), (⟨"OneLeg$Law", "sign", "()I"⟩, 8), (⟨"OneLeg$Law", "readNumber", "()V"⟩, 8), (⟨"OneLeg$Law", "addStep", "(I)V"⟩, 8), (⟨"OneLeg$Law", "isAccepted", "(I)Z"⟩, 8), (⟨"OneLeg$Law", "endOfLine", "(I)I"⟩, 8), (⟨"OneLeg$Thought", "seekFrom", "(III)V"⟩, 10)]
theorem lw_r1 : ∀ q ∈ lw_privs_1, lw_okq q := List.forall_mem_cons.mpr ⟨lw_p0, List.forall_mem_cons.mpr ⟨lw_p1, List.forall_mem_cons.mpr ⟨lw_p2, List.forall_mem_cons.mpr ⟨lw_p3, List.forall_mem_cons.mpr ⟨lw_p4, List.forall_mem_cons.mpr ⟨lw_p5, List.forall_mem_cons.mpr ⟨lw_p6, List.forall_mem_cons.mpr ⟨lw_p7, List.forall_mem_cons.mpr ⟨lw_p8, List.forall_mem_cons.mpr ⟨lw_p9, List.forall_mem_cons.mpr ⟨lw_p10, List.forall_mem_cons.mpr ⟨lw_p11, List.forall_mem_cons.mpr ⟨lw_p12, List.forall_mem_cons.mpr ⟨lw_p13, List.forall_mem_cons.mpr ⟨lw_p14, List.forall_mem_cons.mpr ⟨lw_p15, fun _ h => absurd h List.not_mem_nil⟩⟩⟩⟩⟩⟩⟩⟩⟩⟩⟩⟩⟩⟩⟩⟩
theorem lw_p16 : lw_okq (⟨"OneLeg$Thought", "weigh", "(II)V"⟩, 10) := ⟨⟨by decide +kernel, by decide +kernel⟩, List.mem_of_getElem? (i := 119) (by decide +kernel), List.mem_of_getElem? (i := 495) (by decide +kernel), List.mem_of_getElem? (i := 496) (by decide +kernel)⟩
theorem lw_p17 : lw_okq (⟨"OneLeg", "knownByGroup", "(I)I"⟩, 11) := ⟨⟨by decide +kernel, by decide +kernel⟩, List.mem_of_getElem? (i := 14) (by decide +kernel), List.mem_of_getElem? (i := 505) (by decide +kernel), List.mem_of_getElem? (i := 506) (by decide +kernel)⟩
theorem lw_p18 : lw_okq (⟨"OneLeg", "fewestApart", "()I"⟩, 11) := ⟨⟨by decide +kernel, by decide +kernel⟩, List.mem_of_getElem? (i := 14) (by decide +kernel), List.mem_of_getElem? (i := 520) (by decide +kernel), List.mem_of_getElem? (i := 521) (by decide +kernel)⟩
theorem lw_p19 : lw_okq (⟨"OneLeg", "areToldApart", "(I)Z"⟩, 11) := ⟨⟨by decide +kernel, by decide +kernel⟩, List.mem_of_getElem? (i := 14) (by decide +kernel), List.mem_of_getElem? (i := 524) (by decide +kernel), List.mem_of_getElem? (i := 525) (by decide +kernel)⟩
theorem lw_p20 : lw_okq (⟨"OneLeg", "knownByAll", "()I"⟩, 11) := ⟨⟨by decide +kernel, by decide +kernel⟩, List.mem_of_getElem? (i := 14) (by decide +kernel), List.mem_of_getElem? (i := 528) (by decide +kernel), List.mem_of_getElem? (i := 529) (by decide +kernel)⟩
theorem lw_p21 : lw_okq (⟨"OneLeg$Thought", "holderOf", "(II)I"⟩, 10) := ⟨⟨by decide +kernel, by decide +kernel⟩, List.mem_of_getElem? (i := 119) (by decide +kernel), List.mem_of_getElem? (i := 540) (by decide +kernel), List.mem_of_getElem? (i := 541) (by decide +kernel)⟩
theorem lw_p22 : lw_okq (⟨"OneLeg$Thought", "dealtBy", "(III)I"⟩, 10) := ⟨⟨by decide +kernel, by decide +kernel⟩, List.mem_of_getElem? (i := 119) (by decide +kernel), List.mem_of_getElem? (i := 544) (by decide +kernel), List.mem_of_getElem? (i := 545) (by decide +kernel)⟩
theorem lw_p23 : lw_okq (⟨"OneLeg$Thought", "sortBySlow", "()V"⟩, 10) := ⟨⟨by decide +kernel, by decide +kernel⟩, List.mem_of_getElem? (i := 119) (by decide +kernel), List.mem_of_getElem? (i := 559) (by decide +kernel), List.mem_of_getElem? (i := 560) (by decide +kernel)⟩
theorem lw_p24 : lw_okq (⟨"OneLeg", "firstOut", "()I"⟩, 11) := ⟨⟨by decide +kernel, by decide +kernel⟩, List.mem_of_getElem? (i := 14) (by decide +kernel), List.mem_of_getElem? (i := 563) (by decide +kernel), List.mem_of_getElem? (i := 564) (by decide +kernel)⟩
theorem lw_p25 : lw_okq (⟨"OneLeg", "areShelves", "(I)Z"⟩, 11) := ⟨⟨by decide +kernel, by decide +kernel⟩, List.mem_of_getElem? (i := 14) (by decide +kernel), List.mem_of_getElem? (i := 572) (by decide +kernel), List.mem_of_getElem? (i := 573) (by decide +kernel)⟩
theorem lw_p26 : lw_okq (⟨"OneLeg", "refusalOfDebts", "(I)I"⟩, 11) := ⟨⟨by decide +kernel, by decide +kernel⟩, List.mem_of_getElem? (i := 14) (by decide +kernel), List.mem_of_getElem? (i := 576) (by decide +kernel), List.mem_of_getElem? (i := 577) (by decide +kernel)⟩
theorem lw_p27 : lw_okq (⟨"OneLeg", "firstNotSo", "(IIII)I"⟩, 11) := ⟨⟨by decide +kernel, by decide +kernel⟩, List.mem_of_getElem? (i := 14) (by decide +kernel), List.mem_of_getElem? (i := 580) (by decide +kernel), List.mem_of_getElem? (i := 581) (by decide +kernel)⟩
theorem lw_p28 : lw_okq (⟨"OneLeg", "areBrothers", "(I)Z"⟩, 11) := ⟨⟨by decide +kernel, by decide +kernel⟩, List.mem_of_getElem? (i := 14) (by decide +kernel), List.mem_of_getElem? (i := 588) (by decide +kernel), List.mem_of_getElem? (i := 589) (by decide +kernel)⟩
theorem lw_p29 : lw_okq (⟨"OneLeg$Thought", "worthFrom", "(IIII)I"⟩, 10) := ⟨⟨by decide +kernel, by decide +kernel⟩, List.mem_of_getElem? (i := 119) (by decide +kernel), List.mem_of_getElem? (i := 601) (by decide +kernel), List.mem_of_getElem? (i := 602) (by decide +kernel)⟩
theorem lw_p30 : lw_okq (⟨"OneLeg$Thought", "worthBehind", "(IIIII)I"⟩, 10) := ⟨⟨by decide +kernel, by decide +kernel⟩, List.mem_of_getElem? (i := 119) (by decide +kernel), List.mem_of_getElem? (i := 605) (by decide +kernel), List.mem_of_getElem? (i := 606) (by decide +kernel)⟩
theorem lw_p31 : lw_okq (⟨"OneLeg$Thought", "drawnBy", "(II)I"⟩, 10) := ⟨⟨by decide +kernel, by decide +kernel⟩, List.mem_of_getElem? (i := 119) (by decide +kernel), List.mem_of_getElem? (i := 619) (by decide +kernel), List.mem_of_getElem? (i := 620) (by decide +kernel)⟩
def lw_privs_2 : List (MethodName × Nat) := [(⟨"OneLeg$Thought", "weigh", "(II)V"⟩, 10), (⟨"OneLeg", "knownByGroup", "(I)I"⟩, 11), (⟨"OneLeg", "fewestApart", "()I"⟩, 11), (⟨"OneLeg", "areToldApart", "(I)Z"⟩, 11), (⟨"OneLeg", "knownByAll", "()I"⟩, 11), (⟨"OneLeg$Thought", "holderOf", "(II)I"⟩, 10), (⟨"OneLeg$Thought", "dealtBy", "(III)I"⟩, 10), (⟨"OneLeg$Thought", "sortBySlow", "()V"⟩, 10), (⟨"OneLeg", "firstOut", "()I"⟩, 11), (⟨"OneLeg", "areShelves", "(I)Z"⟩, 11), (⟨"OneLeg", "refusalOfDebts", "(I)I"⟩, 11), (⟨"OneLeg", "firstNotSo", "(IIII)I"⟩, 11), (⟨"OneLeg", "areBrothers", "(I)Z"⟩, 11), (⟨"OneLeg$Thought", "worthFrom", "(IIII)I"⟩, 10), (⟨"OneLeg$Thought", "worthBehind", "(IIIII)I"⟩, 10), (⟨"OneLeg$Thought", "drawnBy", "(II)I"⟩, 10)]
theorem lw_r2 : ∀ q ∈ lw_privs_2, lw_okq q := List.forall_mem_cons.mpr ⟨lw_p16, List.forall_mem_cons.mpr ⟨lw_p17, List.forall_mem_cons.mpr ⟨lw_p18, List.forall_mem_cons.mpr ⟨lw_p19, List.forall_mem_cons.mpr ⟨lw_p20, List.forall_mem_cons.mpr ⟨lw_p21, List.forall_mem_cons.mpr ⟨lw_p22, List.forall_mem_cons.mpr ⟨lw_p23, List.forall_mem_cons.mpr ⟨lw_p24, List.forall_mem_cons.mpr ⟨lw_p25, List.forall_mem_cons.mpr ⟨lw_p26, List.forall_mem_cons.mpr ⟨lw_p27, List.forall_mem_cons.mpr ⟨lw_p28, List.forall_mem_cons.mpr ⟨lw_p29, List.forall_mem_cons.mpr ⟨lw_p30, List.forall_mem_cons.mpr ⟨lw_p31, fun _ h => absurd h List.not_mem_nil⟩⟩⟩⟩⟩⟩⟩⟩⟩⟩⟩⟩⟩⟩⟩⟩
theorem lw_p32 : lw_okq (⟨"OneLeg", "areTwo", "(II)Z"⟩, 11) := ⟨⟨by decide +kernel, by decide +kernel⟩, List.mem_of_getElem? (i := 14) (by decide +kernel), List.mem_of_getElem? (i := 633) (by decide +kernel), List.mem_of_getElem? (i := 634) (by decide +kernel)⟩
theorem lw_p33 : lw_okq (⟨"OneLeg", "isBody", "(I)Z"⟩, 11) := ⟨⟨by decide +kernel, by decide +kernel⟩, List.mem_of_getElem? (i := 14) (by decide +kernel), List.mem_of_getElem? (i := 679) (by decide +kernel), List.mem_of_getElem? (i := 680) (by decide +kernel)⟩
theorem lw_p34 : lw_okq (⟨"OneLeg$Boots", "note", "(I)V"⟩, 4) := ⟨⟨by decide +kernel, by decide +kernel⟩, List.mem_of_getElem? (i := 194) (by decide +kernel), List.mem_of_getElem? (i := 691) (by decide +kernel), List.mem_of_getElem? (i := 692) (by decide +kernel)⟩
theorem lw_p35 : lw_okq (⟨"OneLeg$Boots", "own", "(IIII)I"⟩, 4) := ⟨⟨by decide +kernel, by decide +kernel⟩, List.mem_of_getElem? (i := 194) (by decide +kernel), List.mem_of_getElem? (i := 695) (by decide +kernel), List.mem_of_getElem? (i := 696) (by decide +kernel)⟩
theorem lw_p36 : lw_okq (⟨"OneLeg", "refusalOfPlace", "(II)I"⟩, 11) := ⟨⟨by decide +kernel, by decide +kernel⟩, List.mem_of_getElem? (i := 14) (by decide +kernel), List.mem_of_getElem? (i := 720) (by decide +kernel), List.mem_of_getElem? (i := 721) (by decide +kernel)⟩
theorem lw_p37 : lw_okq (⟨"OneLegModel", "newOne", "(III)I"⟩, 43) := ⟨⟨by decide +kernel, by decide +kernel⟩, List.mem_of_getElem? (i := 752) (by decide +kernel), List.mem_of_getElem? (i := 895) (by decide +kernel), List.mem_of_getElem? (i := 896) (by decide +kernel)⟩
theorem lw_p38 : lw_okq (⟨"OneLegModel", "toldAt", "(II)I"⟩, 43) := ⟨⟨by decide +kernel, by decide +kernel⟩, List.mem_of_getElem? (i := 752) (by decide +kernel), List.mem_of_getElem? (i := 907) (by decide +kernel), List.mem_of_getElem? (i := 908) (by decide +kernel)⟩
theorem lw_p39 : lw_okq (⟨"OneLegModel", "isOf", "(II)Z"⟩, 43) := ⟨⟨by decide +kernel, by decide +kernel⟩, List.mem_of_getElem? (i := 752) (by decide +kernel), List.mem_of_getElem? (i := 915) (by decide +kernel), List.mem_of_getElem? (i := 916) (by decide +kernel)⟩
theorem lw_p40 : lw_okq (⟨"OneLegModel", "isOne", "(I)Z"⟩, 43) := ⟨⟨by decide +kernel, by decide +kernel⟩, List.mem_of_getElem? (i := 752) (by decide +kernel), List.mem_of_getElem? (i := 919) (by decide +kernel), List.mem_of_getElem? (i := 920) (by decide +kernel)⟩
theorem lw_p41 : lw_okq (⟨"OneLegModel", "get", "(II)I"⟩, 43) := ⟨⟨by decide +kernel, by decide +kernel⟩, List.mem_of_getElem? (i := 752) (by decide +kernel), List.mem_of_getElem? (i := 926) (by decide +kernel), List.mem_of_getElem? (i := 927) (by decide +kernel)⟩
theorem lw_p42 : lw_okq (⟨"OneLegModel", "becomes", "(III)V"⟩, 43) := ⟨⟨by decide +kernel, by decide +kernel⟩, List.mem_of_getElem? (i := 752) (by decide +kernel), List.mem_of_getElem? (i := 930) (by decide +kernel), List.mem_of_getElem? (i := 931) (by decide +kernel)⟩
theorem lw_p43 : lw_okq (⟨"OneLegModel", "isLine", "()Z"⟩, 43) := ⟨⟨by decide +kernel, by decide +kernel⟩, List.mem_of_getElem? (i := 752) (by decide +kernel), List.mem_of_getElem? (i := 954) (by decide +kernel), List.mem_of_getElem? (i := 955) (by decide +kernel)⟩
theorem lw_p44 : lw_okq (⟨"OneLegModel", "isE", "()Z"⟩, 43) := ⟨⟨by decide +kernel, by decide +kernel⟩, List.mem_of_getElem? (i := 752) (by decide +kernel), List.mem_of_getElem? (i := 958) (by decide +kernel), List.mem_of_getElem? (i := 959) (by decide +kernel)⟩
theorem lw_p45 : lw_okq (⟨"OneLegModel", "isA", "()Z"⟩, 43) := ⟨⟨by decide +kernel, by decide +kernel⟩, List.mem_of_getElem? (i := 752) (by decide +kernel), List.mem_of_getElem? (i := 962) (by decide +kernel), List.mem_of_getElem? (i := 963) (by decide +kernel)⟩
theorem lw_p46 : lw_okq (⟨"OneLegModel", "isB", "()Z"⟩, 43) := ⟨⟨by decide +kernel, by decide +kernel⟩, List.mem_of_getElem? (i := 752) (by decide +kernel), List.mem_of_getElem? (i := 966) (by decide +kernel), List.mem_of_getElem? (i := 967) (by decide +kernel)⟩
theorem lw_p47 : lw_okq (⟨"OneLegModel", "isS", "()Z"⟩, 43) := ⟨⟨by decide +kernel, by decide +kernel⟩, List.mem_of_getElem? (i := 752) (by decide +kernel), List.mem_of_getElem? (i := 970) (by decide +kernel), List.mem_of_getElem? (i := 971) (by decide +kernel)⟩
def lw_privs_3 : List (MethodName × Nat) := [(⟨"OneLeg", "areTwo", "(II)Z"⟩, 11), (⟨"OneLeg", "isBody", "(I)Z"⟩, 11), (⟨"OneLeg$Boots", "note", "(I)V"⟩, 4), (⟨"OneLeg$Boots", "own", "(IIII)I"⟩, 4), (⟨"OneLeg", "refusalOfPlace", "(II)I"⟩, 11), (⟨"OneLegModel", "newOne", "(III)I"⟩, 43), (⟨"OneLegModel", "toldAt", "(II)I"⟩, 43), (⟨"OneLegModel", "isOf", "(II)Z"⟩, 43), (⟨"OneLegModel", "isOne", "(I)Z"⟩, 43), (⟨"OneLegModel", "get", "(II)I"⟩, 43), (⟨"OneLegModel", "becomes", "(III)V"⟩, 43), (⟨"OneLegModel", "isLine", "()Z"⟩, 43), (⟨"OneLegModel", "isE", "()Z"⟩, 43), (⟨"OneLegModel", "isA", "()Z"⟩, 43), (⟨"OneLegModel", "isB", "()Z"⟩, 43), (⟨"OneLegModel", "isS", "()Z"⟩, 43)]
theorem lw_r3 : ∀ q ∈ lw_privs_3, lw_okq q := List.forall_mem_cons.mpr ⟨lw_p32, List.forall_mem_cons.mpr ⟨lw_p33, List.forall_mem_cons.mpr ⟨lw_p34, List.forall_mem_cons.mpr ⟨lw_p35, List.forall_mem_cons.mpr ⟨lw_p36, List.forall_mem_cons.mpr ⟨lw_p37, List.forall_mem_cons.mpr ⟨lw_p38, List.forall_mem_cons.mpr ⟨lw_p39, List.forall_mem_cons.mpr ⟨lw_p40, List.forall_mem_cons.mpr ⟨lw_p41, List.forall_mem_cons.mpr ⟨lw_p42, List.forall_mem_cons.mpr ⟨lw_p43, List.forall_mem_cons.mpr ⟨lw_p44, List.forall_mem_cons.mpr ⟨lw_p45, List.forall_mem_cons.mpr ⟨lw_p46, List.forall_mem_cons.mpr ⟨lw_p47, fun _ h => absurd h List.not_mem_nil⟩⟩⟩⟩⟩⟩⟩⟩⟩⟩⟩⟩⟩⟩⟩⟩
theorem lw_p48 : lw_okq (⟨"OneLegModel", "isP", "()Z"⟩, 43) := ⟨⟨by decide +kernel, by decide +kernel⟩, List.mem_of_getElem? (i := 752) (by decide +kernel), List.mem_of_getElem? (i := 974) (by decide +kernel), List.mem_of_getElem? (i := 975) (by decide +kernel)⟩
theorem lw_p49 : lw_okq (⟨"OneLegModel", "isO", "()Z"⟩, 43) := ⟨⟨by decide +kernel, by decide +kernel⟩, List.mem_of_getElem? (i := 752) (by decide +kernel), List.mem_of_getElem? (i := 978) (by decide +kernel), List.mem_of_getElem? (i := 979) (by decide +kernel)⟩
theorem lw_p50 : lw_okq (⟨"OneLegModel", "isDigit", "()Z"⟩, 43) := ⟨⟨by decide +kernel, by decide +kernel⟩, List.mem_of_getElem? (i := 752) (by decide +kernel), List.mem_of_getElem? (i := 982) (by decide +kernel), List.mem_of_getElem? (i := 983) (by decide +kernel)⟩
theorem lw_p51 : lw_okq (⟨"OneLegModel", "sign", "()I"⟩, 43) := ⟨⟨by decide +kernel, by decide +kernel⟩, List.mem_of_getElem? (i := 752) (by decide +kernel), List.mem_of_getElem? (i := 986) (by decide +kernel), List.mem_of_getElem? (i := 987) (by decide +kernel)⟩
theorem lw_p52 : lw_okq (⟨"OneLegModel", "codes", "(I)Z"⟩, 43) := ⟨⟨by decide +kernel, by decide +kernel⟩, List.mem_of_getElem? (i := 752) (by decide +kernel), List.mem_of_getElem? (i := 990) (by decide +kernel), List.mem_of_getElem? (i := 991) (by decide +kernel)⟩
theorem lw_p53 : lw_okq (⟨"OneLegModel", "is", "(I)Z"⟩, 43) := ⟨⟨by decide +kernel, by decide +kernel⟩, List.mem_of_getElem? (i := 752) (by decide +kernel), List.mem_of_getElem? (i := 997) (by decide +kernel), List.mem_of_getElem? (i := 998) (by decide +kernel)⟩
theorem lw_p54 : lw_okq (⟨"OneLegModel", "doneBy", "(I)I"⟩, 43) := ⟨⟨by decide +kernel, by decide +kernel⟩, List.mem_of_getElem? (i := 752) (by decide +kernel), List.mem_of_getElem? (i := 1005) (by decide +kernel), List.mem_of_getElem? (i := 1006) (by decide +kernel)⟩
theorem lw_p55 : lw_okq (⟨"OneLegModel", "byLaw", "(I)I"⟩, 43) := ⟨⟨by decide +kernel, by decide +kernel⟩, List.mem_of_getElem? (i := 752) (by decide +kernel), List.mem_of_getElem? (i := 1009) (by decide +kernel), List.mem_of_getElem? (i := 1010) (by decide +kernel)⟩
theorem lw_p56 : lw_okq (⟨"OneLegModel", "wants", "(II)Z"⟩, 43) := ⟨⟨by decide +kernel, by decide +kernel⟩, List.mem_of_getElem? (i := 752) (by decide +kernel), List.mem_of_getElem? (i := 1013) (by decide +kernel), List.mem_of_getElem? (i := 1014) (by decide +kernel)⟩
theorem lw_p57 : lw_okq (⟨"OneLegModel", "worked", "(II)I"⟩, 43) := ⟨⟨by decide +kernel, by decide +kernel⟩, List.mem_of_getElem? (i := 752) (by decide +kernel), List.mem_of_getElem? (i := 1021) (by decide +kernel), List.mem_of_getElem? (i := 1022) (by decide +kernel)⟩
theorem lw_p58 : lw_okq (⟨"OneLegModel", "noBytes", "(I)I"⟩, 43) := ⟨⟨by decide +kernel, by decide +kernel⟩, List.mem_of_getElem? (i := 752) (by decide +kernel), List.mem_of_getElem? (i := 1034) (by decide +kernel), List.mem_of_getElem? (i := 1035) (by decide +kernel)⟩
theorem lw_p59 : lw_okq (⟨"OneLegModel", "keeps", "([I)V"⟩, 43) := ⟨⟨by decide +kernel, by decide +kernel⟩, List.mem_of_getElem? (i := 752) (by decide +kernel), List.mem_of_getElem? (i := 1038) (by decide +kernel), List.mem_of_getElem? (i := 1039) (by decide +kernel)⟩
theorem lw_p60 : lw_okq (⟨"OneLegModel", "goes", "(II)I"⟩, 43) := ⟨⟨by decide +kernel, by decide +kernel⟩, List.mem_of_getElem? (i := 752) (by decide +kernel), List.mem_of_getElem? (i := 1042) (by decide +kernel), List.mem_of_getElem? (i := 1043) (by decide +kernel)⟩
theorem lw_p61 : lw_okq (⟨"OneLegModel", "daysOf", "(I)I"⟩, 43) := ⟨⟨by decide +kernel, by decide +kernel⟩, List.mem_of_getElem? (i := 752) (by decide +kernel), List.mem_of_getElem? (i := 1046) (by decide +kernel), List.mem_of_getElem? (i := 1047) (by decide +kernel)⟩
theorem lw_p62 : lw_okq (⟨"OneLegModel", "passes", "(I)I"⟩, 43) := ⟨⟨by decide +kernel, by decide +kernel⟩, List.mem_of_getElem? (i := 752) (by decide +kernel), List.mem_of_getElem? (i := 1050) (by decide +kernel), List.mem_of_getElem? (i := 1051) (by decide +kernel)⟩
theorem lw_p63 : lw_okq (⟨"OneLegModel", "allOwed", "()I"⟩, 43) := ⟨⟨by decide +kernel, by decide +kernel⟩, List.mem_of_getElem? (i := 752) (by decide +kernel), List.mem_of_getElem? (i := 1054) (by decide +kernel), List.mem_of_getElem? (i := 1055) (by decide +kernel)⟩
def lw_privs_4 : List (MethodName × Nat) := [(⟨"OneLegModel", "isP", "()Z"⟩, 43), (⟨"OneLegModel", "isO", "()Z"⟩, 43), (⟨"OneLegModel", "isDigit", "()Z"⟩, 43), (⟨"OneLegModel", "sign", "()I"⟩, 43), (⟨"OneLegModel", "codes", "(I)Z"⟩, 43), (⟨"OneLegModel", "is", "(I)Z"⟩, 43), (⟨"OneLegModel", "doneBy", "(I)I"⟩, 43), (⟨"OneLegModel", "byLaw", "(I)I"⟩, 43), (⟨"OneLegModel", "wants", "(II)Z"⟩, 43), (⟨"OneLegModel", "worked", "(II)I"⟩, 43), (⟨"OneLegModel", "noBytes", "(I)I"⟩, 43), (⟨"OneLegModel", "keeps", "([I)V"⟩, 43), (⟨"OneLegModel", "goes", "(II)I"⟩, 43), (⟨"OneLegModel", "daysOf", "(I)I"⟩, 43), (⟨"OneLegModel", "passes", "(I)I"⟩, 43), (⟨"OneLegModel", "allOwed", "()I"⟩, 43)]
theorem lw_r4 : ∀ q ∈ lw_privs_4, lw_okq q := List.forall_mem_cons.mpr ⟨lw_p48, List.forall_mem_cons.mpr ⟨lw_p49, List.forall_mem_cons.mpr ⟨lw_p50, List.forall_mem_cons.mpr ⟨lw_p51, List.forall_mem_cons.mpr ⟨lw_p52, List.forall_mem_cons.mpr ⟨lw_p53, List.forall_mem_cons.mpr ⟨lw_p54, List.forall_mem_cons.mpr ⟨lw_p55, List.forall_mem_cons.mpr ⟨lw_p56, List.forall_mem_cons.mpr ⟨lw_p57, List.forall_mem_cons.mpr ⟨lw_p58, List.forall_mem_cons.mpr ⟨lw_p59, List.forall_mem_cons.mpr ⟨lw_p60, List.forall_mem_cons.mpr ⟨lw_p61, List.forall_mem_cons.mpr ⟨lw_p62, List.forall_mem_cons.mpr ⟨lw_p63, fun _ h => absurd h List.not_mem_nil⟩⟩⟩⟩⟩⟩⟩⟩⟩⟩⟩⟩⟩⟩⟩⟩
theorem lw_p64 : lw_okq (⟨"OneLegModel", "laysBack", "([I)V"⟩, 43) := ⟨⟨by decide +kernel, by decide +kernel⟩, List.mem_of_getElem? (i := 752) (by decide +kernel), List.mem_of_getElem? (i := 1058) (by decide +kernel), List.mem_of_getElem? (i := 1059) (by decide +kernel)⟩
theorem lw_p65 : lw_okq (⟨"OneLegModel", "tries", "(II)V"⟩, 43) := ⟨⟨by decide +kernel, by decide +kernel⟩, List.mem_of_getElem? (i := 752) (by decide +kernel), List.mem_of_getElem? (i := 1070) (by decide +kernel), List.mem_of_getElem? (i := 1071) (by decide +kernel)⟩
theorem lw_p66 : lw_okq (⟨"OneLegModel", "knownBy", "(I)I"⟩, 43) := ⟨⟨by decide +kernel, by decide +kernel⟩, List.mem_of_getElem? (i := 752) (by decide +kernel), List.mem_of_getElem? (i := 1078) (by decide +kernel), List.mem_of_getElem? (i := 1079) (by decide +kernel)⟩
theorem lw_p67 : lw_okq (⟨"OneLegModel", "parts", "(I)Z"⟩, 43) := ⟨⟨by decide +kernel, by decide +kernel⟩, List.mem_of_getElem? (i := 752) (by decide +kernel), List.mem_of_getElem? (i := 1086) (by decide +kernel), List.mem_of_getElem? (i := 1087) (by decide +kernel)⟩
theorem lw_p68 : lw_okq (⟨"OneLegModel", "deals", "(III)V"⟩, 43) := ⟨⟨by decide +kernel, by decide +kernel⟩, List.mem_of_getElem? (i := 752) (by decide +kernel), List.mem_of_getElem? (i := 1094) (by decide +kernel), List.mem_of_getElem? (i := 1095) (by decide +kernel)⟩
theorem lw_p69 : lw_okq (⟨"OneLegModel", "burns", "()V"⟩, 43) := ⟨⟨by decide +kernel, by decide +kernel⟩, List.mem_of_getElem? (i := 752) (by decide +kernel), List.mem_of_getElem? (i := 1102) (by decide +kernel), List.mem_of_getElem? (i := 1103) (by decide +kernel)⟩
theorem lw_p70 : lw_okq (⟨"OneLegModel", "goOut", "(III)I"⟩, 43) := ⟨⟨by decide +kernel, by decide +kernel⟩, List.mem_of_getElem? (i := 752) (by decide +kernel), List.mem_of_getElem? (i := 1106) (by decide +kernel), List.mem_of_getElem? (i := 1107) (by decide +kernel)⟩
theorem lw_p71 : lw_okq (⟨"OneLegModel", "slow", "(I)I"⟩, 43) := ⟨⟨by decide +kernel, by decide +kernel⟩, List.mem_of_getElem? (i := 752) (by decide +kernel), List.mem_of_getElem? (i := 1110) (by decide +kernel), List.mem_of_getElem? (i := 1111) (by decide +kernel)⟩
theorem lw_p72 : lw_okq (⟨"OneLegModel", "noDebts", "(I)I"⟩, 43) := ⟨⟨by decide +kernel, by decide +kernel⟩, List.mem_of_getElem? (i := 752) (by decide +kernel), List.mem_of_getElem? (i := 1118) (by decide +kernel), List.mem_of_getElem? (i := 1119) (by decide +kernel)⟩
theorem lw_p73 : lw_okq (⟨"OneLegModel", "unlike", "(II)I"⟩, 43) := ⟨⟨by decide +kernel, by decide +kernel⟩, List.mem_of_getElem? (i := 752) (by decide +kernel), List.mem_of_getElem? (i := 1122) (by decide +kernel), List.mem_of_getElem? (i := 1123) (by decide +kernel)⟩
theorem lw_p74 : lw_okq (⟨"OneLegModel", "turnBy", "(IIIZ)I"⟩, 43) := ⟨⟨by decide +kernel, by decide +kernel⟩, List.mem_of_getElem? (i := 752) (by decide +kernel), List.mem_of_getElem? (i := 1135) (by decide +kernel), List.mem_of_getElem? (i := 1136) (by decide +kernel)⟩
theorem lw_p75 : lw_okq (⟨"OneLegModel", "turnFrom", "(III)I"⟩, 43) := ⟨⟨by decide +kernel, by decide +kernel⟩, List.mem_of_getElem? (i := 752) (by decide +kernel), List.mem_of_getElem? (i := 1139) (by decide +kernel), List.mem_of_getElem? (i := 1140) (by decide +kernel)⟩
theorem lw_p76 : lw_okq (⟨"OneLegModel", "walksBy", "(III)I"⟩, 43) := ⟨⟨by decide +kernel, by decide +kernel⟩, List.mem_of_getElem? (i := 752) (by decide +kernel), List.mem_of_getElem? (i := 1185) (by decide +kernel), List.mem_of_getElem? (i := 1186) (by decide +kernel)⟩
theorem lw_p77 : lw_okq (⟨"OneLegModel", "ran", "(I)V"⟩, 43) := ⟨⟨by decide +kernel, by decide +kernel⟩, List.mem_of_getElem? (i := 752) (by decide +kernel), List.mem_of_getElem? (i := 1189) (by decide +kernel), List.mem_of_getElem? (i := 1190) (by decide +kernel)⟩
theorem lw_p78 : lw_okq (⟨"OneLegModel", "leansBy", "(III)I"⟩, 43) := ⟨⟨by decide +kernel, by decide +kernel⟩, List.mem_of_getElem? (i := 752) (by decide +kernel), List.mem_of_getElem? (i := 1196) (by decide +kernel), List.mem_of_getElem? (i := 1197) (by decide +kernel)⟩
theorem lw_p79 : lw_okq (⟨"OneLegModel", "owesBy", "(III)I"⟩, 43) := ⟨⟨by decide +kernel, by decide +kernel⟩, List.mem_of_getElem? (i := 752) (by decide +kernel), List.mem_of_getElem? (i := 1200) (by decide +kernel), List.mem_of_getElem? (i := 1201) (by decide +kernel)⟩
def lw_privs_5 : List (MethodName × Nat) := [(⟨"OneLegModel", "laysBack", "([I)V"⟩, 43), (⟨"OneLegModel", "tries", "(II)V"⟩, 43), (⟨"OneLegModel", "knownBy", "(I)I"⟩, 43), (⟨"OneLegModel", "parts", "(I)Z"⟩, 43), (⟨"OneLegModel", "deals", "(III)V"⟩, 43), (⟨"OneLegModel", "burns", "()V"⟩, 43), (⟨"OneLegModel", "goOut", "(III)I"⟩, 43), (⟨"OneLegModel", "slow", "(I)I"⟩, 43), (⟨"OneLegModel", "noDebts", "(I)I"⟩, 43), (⟨"OneLegModel", "unlike", "(II)I"⟩, 43), (⟨"OneLegModel", "turnBy", "(IIIZ)I"⟩, 43), (⟨"OneLegModel", "turnFrom", "(III)I"⟩, 43), (⟨"OneLegModel", "walksBy", "(III)I"⟩, 43), (⟨"OneLegModel", "ran", "(I)V"⟩, 43), (⟨"OneLegModel", "leansBy", "(III)I"⟩, 43), (⟨"OneLegModel", "owesBy", "(III)I"⟩, 43)]
theorem lw_r5 : ∀ q ∈ lw_privs_5, lw_okq q := List.forall_mem_cons.mpr ⟨lw_p64, List.forall_mem_cons.mpr ⟨lw_p65, List.forall_mem_cons.mpr ⟨lw_p66, List.forall_mem_cons.mpr ⟨lw_p67, List.forall_mem_cons.mpr ⟨lw_p68, List.forall_mem_cons.mpr ⟨lw_p69, List.forall_mem_cons.mpr ⟨lw_p70, List.forall_mem_cons.mpr ⟨lw_p71, List.forall_mem_cons.mpr ⟨lw_p72, List.forall_mem_cons.mpr ⟨lw_p73, List.forall_mem_cons.mpr ⟨lw_p74, List.forall_mem_cons.mpr ⟨lw_p75, List.forall_mem_cons.mpr ⟨lw_p76, List.forall_mem_cons.mpr ⟨lw_p77, List.forall_mem_cons.mpr ⟨lw_p78, List.forall_mem_cons.mpr ⟨lw_p79, fun _ h => absurd h List.not_mem_nil⟩⟩⟩⟩⟩⟩⟩⟩⟩⟩⟩⟩⟩⟩⟩⟩
theorem lw_p80 : lw_okq (⟨"OneLegModel", "tells", "(III)I"⟩, 43) := ⟨⟨by decide +kernel, by decide +kernel⟩, List.mem_of_getElem? (i := 752) (by decide +kernel), List.mem_of_getElem? (i := 1204) (by decide +kernel), List.mem_of_getElem? (i := 1205) (by decide +kernel)⟩
theorem lw_p81 : lw_okq (⟨"OneLegModel", "isRow", "(I)Z"⟩, 43) := ⟨⟨by decide +kernel, by decide +kernel⟩, List.mem_of_getElem? (i := 752) (by decide +kernel), List.mem_of_getElem? (i := 1224) (by decide +kernel), List.mem_of_getElem? (i := 1225) (by decide +kernel)⟩
def lw_privs_6 : List (MethodName × Nat) := [(⟨"OneLegModel", "tells", "(III)I"⟩, 43), (⟨"OneLegModel", "isRow", "(I)Z"⟩, 43)]
theorem lw_r6 : ∀ q ∈ lw_privs_6, lw_okq q := List.forall_mem_cons.mpr ⟨lw_p80, List.forall_mem_cons.mpr ⟨lw_p81, fun _ h => absurd h List.not_mem_nil⟩⟩
def lw_privs : List (MethodName × Nat) := lw_privs_1 ++ (lw_privs_2 ++ (lw_privs_3 ++ (lw_privs_4 ++ (lw_privs_5 ++ (lw_privs_6)))))
def lw_tbl : List Cond := k2_sels lw_privs ++ tables_1
theorem lw_privs_ok : ∀ q ∈ lw_privs, lw_okq q := by
  show ∀ q ∈ lw_privs_1 ++ (lw_privs_2 ++ (lw_privs_3 ++ (lw_privs_4 ++ (lw_privs_5 ++ (lw_privs_6))))), lw_okq q
  exact List.forall_mem_append.mpr ⟨lw_r1, List.forall_mem_append.mpr ⟨lw_r2, List.forall_mem_append.mpr ⟨lw_r3, List.forall_mem_append.mpr ⟨lw_r4, List.forall_mem_append.mpr ⟨lw_r5, lw_r6⟩⟩⟩⟩⟩

def RX0 : String := "OneLeg$Boots"
def TX0 : u_T := fun k => match k with
  | 0 => ("OneLeg$Boots", "kinds", "[I", true)
  | 1 => ("OneLeg$Boots", "size", "I", false)
  | 2 => ("OneLeg$Boots", "traced", "[I", true)
  | _ => ("OneLeg$Boots", "ran", "I", false)
def tyX0 : Nat → FieldType := fun k => match k with
  | 0 => .array .int
  | 1 => .int
  | 2 => .array .int
  | _ => .int
theorem nmX0 : ∀ a, a < 4 → ∀ b, b < 4 → a ≠ b → (TX0 a).2.1 ≠ (TX0 b).2.1 := by decide +kernel
theorem tyX0_ok : ∀ k, k < 4 → parseFieldDescriptor (TX0 k).2.2.1 = some (tyX0 k) := by decide +kernel
abbrev cX0_init : ByteArray := prog_2_method_1_code
def yX0_init : MethodName := ⟨RX0, "<init>", "()V"⟩
abbrev cX0_add : ByteArray := prog_2_method_2_code
def yX0_add : MethodName := ⟨RX0, "add", "(I)I"⟩
abbrev cX0_isUnder : ByteArray := prog_2_method_3_code
def yX0_isUnder : MethodName := ⟨RX0, "isUnder", "(II)Z"⟩
abbrev cX0_perform : ByteArray := prog_2_method_4_code
def yX0_perform : MethodName := ⟨RX0, "perform", "(IIIII)I"⟩
abbrev cX0_own : ByteArray := prog_2_method_5_code
def yX0_own : MethodName := ⟨RX0, "own", "(IIII)I"⟩
abbrev cX0_note : ByteArray := prog_2_method_6_code
def yX0_note : MethodName := ⟨RX0, "note", "(I)V"⟩
def RX1 : String := "OneLeg$Changes"
def TX1 : u_T := fun k => match k with
  | 0 => ("OneLeg$Changes", "numbers", "[I", true)
  | 1 => ("OneLeg$Changes", "whats", "[I", true)
  | 2 => ("OneLeg$Changes", "before", "[I", true)
  | 3 => ("OneLeg$Changes", "after", "[I", true)
  | 4 => ("OneLeg$Changes", "done", "I", false)
  | _ => ("OneLeg$Changes", "kept", "I", false)
def tyX1 : Nat → FieldType := fun k => match k with
  | 0 => .array .int
  | 1 => .array .int
  | 2 => .array .int
  | 3 => .array .int
  | 4 => .int
  | _ => .int
theorem nmX1 : ∀ a, a < 6 → ∀ b, b < 6 → a ≠ b → (TX1 a).2.1 ≠ (TX1 b).2.1 := by decide +kernel
theorem tyX1_ok : ∀ k, k < 6 → parseFieldDescriptor (TX1 k).2.2.1 = some (tyX1 k) := by decide +kernel
abbrev cX1_init : ByteArray := prog_3_method_1_code
def yX1_init : MethodName := ⟨RX1, "<init>", "()V"⟩
abbrev cX1_add : ByteArray := prog_3_method_2_code
def yX1_add : MethodName := ⟨RX1, "add", "(IIII)V"⟩
abbrev cX1_dropOldest : ByteArray := prog_3_method_3_code
def yX1_dropOldest : MethodName := ⟨RX1, "dropOldest", "()V"⟩
def RX2 : String := "OneLeg$House"
def TX2 : u_T := fun k => match k with
  | 0 => ("OneLeg$House", "size", "I", false)
  | 1 => ("OneLeg$House", "wants", "[I", true)
  | 2 => ("OneLeg$House", "slow", "[I", true)
  | 3 => ("OneLeg$House", "kinds", "[I", true)
  | 4 => ("OneLeg$House", "facts", "[I", true)
  | 5 => ("OneLeg$House", "law", "LOneLeg$Law;", true)
  | _ => ("OneLeg$House", "named", "[I", true)
def tyX2 : Nat → FieldType := fun k => match k with
  | 0 => .int
  | 1 => .array .int
  | 2 => .array .int
  | 3 => .array .int
  | 4 => .array .int
  | 5 => .object "OneLeg$Law"
  | _ => .array .int
theorem nmX2 : ∀ a, a < 7 → ∀ b, b < 7 → a ≠ b → (TX2 a).2.1 ≠ (TX2 b).2.1 := by decide +kernel
theorem tyX2_ok : ∀ k, k < 7 → parseFieldDescriptor (TX2 k).2.2.1 = some (tyX2 k) := by decide +kernel
abbrev cX2_init : ByteArray := prog_4_method_1_code
def yX2_init : MethodName := ⟨RX2, "<init>", "()V"⟩
abbrev cX2_isOne : ByteArray := prog_4_method_2_code
def yX2_isOne : MethodName := ⟨RX2, "isOne", "(I)Z"⟩
abbrev cX2_mayHave : ByteArray := prog_4_method_3_code
def yX2_mayHave : MethodName := ⟨RX2, "mayHave", "(J)Z"⟩
abbrev cX2_doneBy : ByteArray := prog_4_method_4_code
def yX2_doneBy : MethodName := ⟨RX2, "doneBy", "(LOneLeg$Standing;I)I"⟩
abbrev cX2_pass : ByteArray := prog_4_method_5_code
def yX2_pass : MethodName := ⟨RX2, "pass", "(LOneLeg$Standing;I)I"⟩
abbrev cX2_owedBehind : ByteArray := prog_4_method_6_code
def yX2_owedBehind : MethodName := ⟨RX2, "owedBehind", "(IIIII)I"⟩
abbrev cX2_daysOf : ByteArray := prog_4_method_7_code
def yX2_daysOf : MethodName := ⟨RX2, "daysOf", "(LOneLeg$Shelf;)I"⟩
def RX3 : String := "OneLeg$Law"
def TX3 : u_T := fun k => match k with
  | 0 => ("OneLeg$Law", "steps", "[I", true)
  | 1 => ("OneLeg$Law", "size", "I", false)
  | 2 => ("OneLeg$Law", "stack", "[I", true)
  | 3 => ("OneLeg$Law", "tape", "[I", true)
  | 4 => ("OneLeg$Law", "length", "I", false)
  | 5 => ("OneLeg$Law", "at", "I", false)
  | 6 => ("OneLeg$Law", "draft", "[I", true)
  | _ => ("OneLeg$Law", "drafted", "I", false)
def tyX3 : Nat → FieldType := fun k => match k with
  | 0 => .array .int
  | 1 => .int
  | 2 => .array .int
  | 3 => .array .int
  | 4 => .int
  | 5 => .int
  | 6 => .array .int
  | _ => .int
theorem nmX3 : ∀ a, a < 8 → ∀ b, b < 8 → a ≠ b → (TX3 a).2.1 ≠ (TX3 b).2.1 := by decide +kernel
theorem tyX3_ok : ∀ k, k < 8 → parseFieldDescriptor (TX3 k).2.2.1 = some (tyX3 k) := by decide +kernel
abbrev cX3_init : ByteArray := prog_5_method_1_code
def yX3_init : MethodName := ⟨RX3, "<init>", "()V"⟩
abbrev cX3_isWritten : ByteArray := prog_5_method_2_code
def yX3_isWritten : MethodName := ⟨RX3, "isWritten", "()Z"⟩
abbrev cX3_write : ByteArray := prog_5_method_3_code
def yX3_write : MethodName := ⟨RX3, "write", "(I)I"⟩
abbrev cX3_read : ByteArray := prog_5_method_4_code
def yX3_read : MethodName := ⟨RX3, "read", "()I"⟩
abbrev cX3_readLines : ByteArray := prog_5_method_5_code
def yX3_readLines : MethodName := ⟨RX3, "readLines", "()Z"⟩
abbrev cX3_readLine : ByteArray := prog_5_method_6_code
def yX3_readLine : MethodName := ⟨RX3, "readLine", "()Z"⟩
abbrev cX3_readChain : ByteArray := prog_5_method_7_code
def yX3_readChain : MethodName := ⟨RX3, "readChain", "(II)Z"⟩
abbrev cX3_readOperand : ByteArray := prog_5_method_8_code
def yX3_readOperand : MethodName := ⟨RX3, "readOperand", "(I)Z"⟩
abbrev cX3_readNumber : ByteArray := prog_5_method_9_code
def yX3_readNumber : MethodName := ⟨RX3, "readNumber", "()V"⟩
abbrev cX3_isAccepted : ByteArray := prog_5_method_10_code
def yX3_isAccepted : MethodName := ⟨RX3, "isAccepted", "(I)Z"⟩
abbrev cX3_sign : ByteArray := prog_5_method_11_code
def yX3_sign : MethodName := ⟨RX3, "sign", "()I"⟩
abbrev cX3_addStep : ByteArray := prog_5_method_12_code
def yX3_addStep : MethodName := ⟨RX3, "addStep", "(I)V"⟩
abbrev cX3_isDigit : ByteArray := prog_5_method_13_code
def yX3_isDigit : MethodName := ⟨RX3, "isDigit", "(I)Z"⟩
abbrev cX3_nameOf : ByteArray := prog_5_method_14_code
def yX3_nameOf : MethodName := ⟨RX3, "nameOf", "(I)I"⟩
abbrev cX3_levelOf : ByteArray := prog_5_method_15_code
def yX3_levelOf : MethodName := ⟨RX3, "levelOf", "(I)I"⟩
abbrev cX3_workOut : ByteArray := prog_5_method_16_code
def yX3_workOut : MethodName := ⟨RX3, "workOut", "([I)I"⟩
abbrev cX3_endOfLine : ByteArray := prog_5_method_17_code
def yX3_endOfLine : MethodName := ⟨RX3, "endOfLine", "(I)I"⟩
abbrev cX3_joined : ByteArray := prog_5_method_18_code
def yX3_joined : MethodName := ⟨RX3, "joined", "(III)I"⟩
def RX4 : String := "OneLeg$Shelf"
def TX4 : u_T := fun k => match k with
  | 0 => ("OneLeg$Shelf", "holds", "I", false)
  | 1 => ("OneLeg$Shelf", "boot", "I", false)
  | 2 => ("OneLeg$Shelf", "size", "I", false)
  | _ => ("OneLeg$Shelf", "elements", "[J", true)
def tyX4 : Nat → FieldType := fun k => match k with
  | 0 => .int
  | 1 => .int
  | 2 => .int
  | _ => .array .long
theorem nmX4 : ∀ a, a < 4 → ∀ b, b < 4 → a ≠ b → (TX4 a).2.1 ≠ (TX4 b).2.1 := by decide +kernel
theorem tyX4_ok : ∀ k, k < 4 → parseFieldDescriptor (TX4 k).2.2.1 = some (tyX4 k) := by decide +kernel
abbrev cX4_init : ByteArray := prog_6_method_1_code
def yX4_init : MethodName := ⟨RX4, "<init>", "()V"⟩
abbrev cX4_becomeRow : ByteArray := prog_6_method_2_code
def yX4_becomeRow : MethodName := ⟨RX4, "becomeRow", "(II)V"⟩
abbrev cX4_refusalFor : ByteArray := prog_6_method_3_code
def yX4_refusalFor : MethodName := ⟨RX4, "refusalFor", "(I)I"⟩
abbrev cX4_hasPlaces : ByteArray := prog_6_method_4_code
def yX4_hasPlaces : MethodName := ⟨RX4, "hasPlaces", "(II)Z"⟩
abbrev cX4_cut : ByteArray := prog_6_method_5_code
def yX4_cut : MethodName := ⟨RX4, "cut", "(J)J"⟩
def RX5 : String := "OneLeg$Standing"
def TX5 : u_T := fun k => match k with
  | 0 => ("OneLeg$Standing", "owed", "[I", true)
  | 1 => ("OneLeg$Standing", "knows", "[I", true)
  | 2 => ("OneLeg$Standing", "worn", "I", false)
  | _ => ("OneLeg$Standing", "today", "I", false)
def tyX5 : Nat → FieldType := fun k => match k with
  | 0 => .array .int
  | 1 => .array .int
  | 2 => .int
  | _ => .int
theorem nmX5 : ∀ a, a < 4 → ∀ b, b < 4 → a ≠ b → (TX5 a).2.1 ≠ (TX5 b).2.1 := by decide +kernel
theorem tyX5_ok : ∀ k, k < 4 → parseFieldDescriptor (TX5 k).2.2.1 = some (tyX5 k) := by decide +kernel
abbrev cX5_init : ByteArray := prog_7_method_1_code
def yX5_init : MethodName := ⟨RX5, "<init>", "()V"⟩
abbrev cX5_copyFrom : ByteArray := prog_7_method_2_code
def yX5_copyFrom : MethodName := ⟨RX5, "copyFrom", "(LOneLeg$Standing;I)V"⟩
abbrev cX5_owedOfAll : ByteArray := prog_7_method_3_code
def yX5_owedOfAll : MethodName := ⟨RX5, "owedOfAll", "(I)I"⟩
def RX6 : String := "OneLeg$Thought"
def TX6 : u_T := fun k => match k with
  | 0 => ("OneLeg$Thought", "bestDone", "I", false)
  | 1 => ("OneLeg$Thought", "bestOwed", "I", false)
  | 2 => ("OneLeg$Thought", "bestRota", "[I", true)
  | 3 => ("OneLeg$Thought", "isTakenFirst", "Z", false)
  | 4 => ("OneLeg$Thought", "house", "LOneLeg$House;", true)
  | 5 => ("OneLeg$Thought", "steps", "[LOneLeg$Standing;", true)
  | 6 => ("OneLeg$Thought", "rota", "[I", true)
  | 7 => ("OneLeg$Thought", "hasBest", "Z", false)
  | 8 => ("OneLeg$Thought", "mostDealt", "[I", true)
  | _ => ("OneLeg$Thought", "bySlow", "[I", true)
def tyX6 : Nat → FieldType := fun k => match k with
  | 0 => .int
  | 1 => .int
  | 2 => .array .int
  | 3 => .boolean
  | 4 => .object "OneLeg$House"
  | 5 => .array (.object "OneLeg$Standing")
  | 6 => .array .int
  | 7 => .boolean
  | 8 => .array .int
  | _ => .array .int
theorem nmX6 : ∀ a, a < 10 → ∀ b, b < 10 → a ≠ b → (TX6 a).2.1 ≠ (TX6 b).2.1 := by decide +kernel
theorem tyX6_ok : ∀ k, k < 10 → parseFieldDescriptor (TX6 k).2.2.1 = some (tyX6 k) := by decide +kernel
abbrev cX6_init : ByteArray := prog_8_method_1_code
def yX6_init : MethodName := ⟨RX6, "<init>", "(LOneLeg$House;)V"⟩
abbrev cX6_latest : ByteArray := prog_8_method_2_code
def yX6_latest : MethodName := ⟨RX6, "latest", "()LOneLeg$Standing;"⟩
abbrev cX6_follow : ByteArray := prog_8_method_3_code
def yX6_follow : MethodName := ⟨RX6, "follow", "(LOneLeg$Standing;LOneLeg$Shelf;I)I"⟩
abbrev cX6_seekBest : ByteArray := prog_8_method_4_code
def yX6_seekBest : MethodName := ⟨RX6, "seekBest", "(LOneLeg$Standing;I)V"⟩
abbrev cX6_seekFrom : ByteArray := prog_8_method_5_code
def yX6_seekFrom : MethodName := ⟨RX6, "seekFrom", "(III)V"⟩
abbrev cX6_weigh : ByteArray := prog_8_method_6_code
def yX6_weigh : MethodName := ⟨RX6, "weigh", "(II)V"⟩
abbrev cX6_worthOfTurns : ByteArray := prog_8_method_7_code
def yX6_worthOfTurns : MethodName := ⟨RX6, "worthOfTurns", "(LOneLeg$Standing;III)I"⟩
abbrev cX6_worthFrom : ByteArray := prog_8_method_8_code
def yX6_worthFrom : MethodName := ⟨RX6, "worthFrom", "(IIII)I"⟩
abbrev cX6_worthBehind : ByteArray := prog_8_method_9_code
def yX6_worthBehind : MethodName := ⟨RX6, "worthBehind", "(IIIII)I"⟩
abbrev cX6_draw : ByteArray := prog_8_method_10_code
def yX6_draw : MethodName := ⟨RX6, "draw", "(LOneLeg$Standing;IIIII)I"⟩
abbrev cX6_drawnBy : ByteArray := prog_8_method_11_code
def yX6_drawnBy : MethodName := ⟨RX6, "drawnBy", "(II)I"⟩
abbrev cX6_dealt : ByteArray := prog_8_method_12_code
def yX6_dealt : MethodName := ⟨RX6, "dealt", "(I)I"⟩
abbrev cX6_holderOf : ByteArray := prog_8_method_13_code
def yX6_holderOf : MethodName := ⟨RX6, "holderOf", "(II)I"⟩
abbrev cX6_dealtBy : ByteArray := prog_8_method_14_code
def yX6_dealtBy : MethodName := ⟨RX6, "dealtBy", "(III)I"⟩
abbrev cX6_groupOf : ByteArray := prog_8_method_15_code
def yX6_groupOf : MethodName := ⟨RX6, "groupOf", "(I)I"⟩
abbrev cX6_minutesOut : ByteArray := prog_8_method_16_code
def yX6_minutesOut : MethodName := ⟨RX6, "minutesOut", "()I"⟩
abbrev cX6_sortBySlow : ByteArray := prog_8_method_17_code
def yX6_sortBySlow : MethodName := ⟨RX6, "sortBySlow", "()V"⟩
def RX7 : String := "OneLeg"
def TX7 : u_T := fun k => match k with
  | 0 => ("OneLeg", "house", "LOneLeg$House;", true)
  | 1 => ("OneLeg", "now", "LOneLeg$Standing;", true)
  | 2 => ("OneLeg", "led", "[I", true)
  | 3 => ("OneLeg", "imaged", "LOneLeg$Standing;", true)
  | 4 => ("OneLeg", "imagedLed", "[I", true)
  | 5 => ("OneLeg", "imagedBrothers", "I", false)
  | 6 => ("OneLeg", "hasImage", "Z", false)
  | 7 => ("OneLeg", "thought", "LOneLeg$Thought;", true)
  | 8 => ("OneLeg", "changes", "LOneLeg$Changes;", true)
  | 9 => ("OneLeg", "boots", "LOneLeg$Boots;", true)
  | _ => ("OneLeg", "shelves", "[LOneLeg$Shelf;", true)
def tyX7 : Nat → FieldType := fun k => match k with
  | 0 => .object "OneLeg$House"
  | 1 => .object "OneLeg$Standing"
  | 2 => .array .int
  | 3 => .object "OneLeg$Standing"
  | 4 => .array .int
  | 5 => .int
  | 6 => .boolean
  | 7 => .object "OneLeg$Thought"
  | 8 => .object "OneLeg$Changes"
  | 9 => .object "OneLeg$Boots"
  | _ => .array (.object "OneLeg$Shelf")
theorem nmX7 : ∀ a, a < 11 → ∀ b, b < 11 → a ≠ b → (TX7 a).2.1 ≠ (TX7 b).2.1 := by decide +kernel
theorem tyX7_ok : ∀ k, k < 11 → parseFieldDescriptor (TX7 k).2.2.1 = some (tyX7 k) := by decide +kernel
abbrev cX7_init : ByteArray := prog_1_method_1_code
def yX7_init : MethodName := ⟨RX7, "<init>", "()V"⟩
abbrev cX7_brother : ByteArray := prog_1_method_2_code
def yX7_brother : MethodName := ⟨RX7, "brother", "(I)I"⟩
abbrev cX7_brothers : ByteArray := prog_1_method_3_code
def yX7_brothers : MethodName := ⟨RX7, "brothers", "(III)I"⟩
abbrev cX7_comesFrom : ByteArray := prog_1_method_4_code
def yX7_comesFrom : MethodName := ⟨RX7, "comesFrom", "(LOneLeg$Shelf;I)Z"⟩
abbrev cX7_welcome : ByteArray := prog_1_method_5_code
def yX7_welcome : MethodName := ⟨RX7, "welcome", "(III)I"⟩
abbrev cX7_mend : ByteArray := prog_1_method_6_code
def yX7_mend : MethodName := ⟨RX7, "mend", "(III)I"⟩
abbrev cX7_of : ByteArray := prog_1_method_7_code
def yX7_of : MethodName := ⟨RX7, "of", "(II)I"⟩
abbrev cX7_isNumber : ByteArray := prog_1_method_8_code
def yX7_isNumber : MethodName := ⟨RX7, "isNumber", "(II)Z"⟩
abbrev cX7_numberOf : ByteArray := prog_1_method_9_code
def yX7_numberOf : MethodName := ⟨RX7, "numberOf", "(II)I"⟩
abbrev cX7_become : ByteArray := prog_1_method_10_code
def yX7_become : MethodName := ⟨RX7, "become", "(III)V"⟩
abbrev cX7_feed : ByteArray := prog_1_method_11_code
def yX7_feed : MethodName := ⟨RX7, "feed", "(I)I"⟩
abbrev cX7_law : ByteArray := prog_1_method_12_code
def yX7_law : MethodName := ⟨RX7, "law", "()I"⟩
abbrev cX7_does : ByteArray := prog_1_method_13_code
def yX7_does : MethodName := ⟨RX7, "does", "(I)I"⟩
abbrev cX7_later : ByteArray := prog_1_method_14_code
def yX7_later : MethodName := ⟨RX7, "later", "(IIII)I"⟩
abbrev cX7_deep : ByteArray := prog_1_method_15_code
def yX7_deep : MethodName := ⟨RX7, "deep", "(III)I"⟩
abbrev cX7_bestRota : ByteArray := prog_1_method_16_code
def yX7_bestRota : MethodName := ⟨RX7, "bestRota", "(II)I"⟩
abbrev cX7_told : ByteArray := prog_1_method_17_code
def yX7_told : MethodName := ⟨RX7, "told", "(III)I"⟩
abbrev cX7_knownByGroup : ByteArray := prog_1_method_18_code
def yX7_knownByGroup : MethodName := ⟨RX7, "knownByGroup", "(I)I"⟩
abbrev cX7_apart : ByteArray := prog_1_method_19_code
def yX7_apart : MethodName := ⟨RX7, "apart", "(I)I"⟩
abbrev cX7_fewestApart : ByteArray := prog_1_method_20_code
def yX7_fewestApart : MethodName := ⟨RX7, "fewestApart", "()I"⟩
abbrev cX7_areToldApart : ByteArray := prog_1_method_21_code
def yX7_areToldApart : MethodName := ⟨RX7, "areToldApart", "(I)Z"⟩
abbrev cX7_knownByAll : ByteArray := prog_1_method_22_code
def yX7_knownByAll : MethodName := ⟨RX7, "knownByAll", "()I"⟩
abbrev cX7_fewer : ByteArray := prog_1_method_23_code
def yX7_fewer : MethodName := ⟨RX7, "fewer", "(II)I"⟩
abbrev cX7_manyOrWhich : ByteArray := prog_1_method_24_code
def yX7_manyOrWhich : MethodName := ⟨RX7, "manyOrWhich", "(II)I"⟩
abbrev cX7_week : ByteArray := prog_1_method_25_code
def yX7_week : MethodName := ⟨RX7, "week", "(I)I"⟩
abbrev cX7_fire : ByteArray := prog_1_method_26_code
def yX7_fire : MethodName := ⟨RX7, "fire", "(I)I"⟩
abbrev cX7_firstOut : ByteArray := prog_1_method_27_code
def yX7_firstOut : MethodName := ⟨RX7, "firstOut", "()I"⟩
abbrev cX7_judge : ByteArray := prog_1_method_28_code
def yX7_judge : MethodName := ⟨RX7, "judge", "(II)I"⟩
abbrev cX7_fits : ByteArray := prog_1_method_29_code
def yX7_fits : MethodName := ⟨RX7, "fits", "(III)I"⟩
abbrev cX7_areShelves : ByteArray := prog_1_method_30_code
def yX7_areShelves : MethodName := ⟨RX7, "areShelves", "(I)Z"⟩
abbrev cX7_areBrothers : ByteArray := prog_1_method_31_code
def yX7_areBrothers : MethodName := ⟨RX7, "areBrothers", "(I)Z"⟩
abbrev cX7_refusalOfDebts : ByteArray := prog_1_method_32_code
def yX7_refusalOfDebts : MethodName := ⟨RX7, "refusalOfDebts", "(I)I"⟩
abbrev cX7_firstNotSo : ByteArray := prog_1_method_33_code
def yX7_firstNotSo : MethodName := ⟨RX7, "firstNotSo", "(IIII)I"⟩
abbrev cX7_byTurns : ByteArray := prog_1_method_34_code
def yX7_byTurns : MethodName := ⟨RX7, "byTurns", "(III)I"⟩
abbrev cX7_drawn : ByteArray := prog_1_method_35_code
def yX7_drawn : MethodName := ⟨RX7, "drawn", "(III)I"⟩
abbrev cX7_day : ByteArray := prog_1_method_36_code
def yX7_day : MethodName := ⟨RX7, "day", "(I)I"⟩
abbrev cX7_tells : ByteArray := prog_1_method_37_code
def yX7_tells : MethodName := ⟨RX7, "tells", "(II)I"⟩
abbrev cX7_pays : ByteArray := prog_1_method_38_code
def yX7_pays : MethodName := ⟨RX7, "pays", "(III)I"⟩
abbrev cX7_areTwo : ByteArray := prog_1_method_39_code
def yX7_areTwo : MethodName := ⟨RX7, "areTwo", "(II)Z"⟩
abbrev cX7_cobble : ByteArray := prog_1_method_40_code
def yX7_cobble : MethodName := ⟨RX7, "cobble", "()I"⟩
abbrev cX7_led : ByteArray := prog_1_method_41_code
def yX7_led : MethodName := ⟨RX7, "led", "(I)I"⟩
abbrev cX7_image : ByteArray := prog_1_method_42_code
def yX7_image : MethodName := ⟨RX7, "image", "()I"⟩
abbrev cX7_back : ByteArray := prog_1_method_43_code
def yX7_back : MethodName := ⟨RX7, "back", "()I"⟩
abbrev cX7_undo : ByteArray := prog_1_method_44_code
def yX7_undo : MethodName := ⟨RX7, "undo", "()I"⟩
abbrev cX7_redo : ByteArray := prog_1_method_45_code
def yX7_redo : MethodName := ⟨RX7, "redo", "()I"⟩
abbrev cX7_body : ByteArray := prog_1_method_46_code
def yX7_body : MethodName := ⟨RX7, "body", "(I)I"⟩
abbrev cX7_act : ByteArray := prog_1_method_47_code
def yX7_act : MethodName := ⟨RX7, "act", "(III)I"⟩
abbrev cX7_trace : ByteArray := prog_1_method_48_code
def yX7_trace : MethodName := ⟨RX7, "trace", "(I)I"⟩
abbrev cX7_keep : ByteArray := prog_1_method_49_code
def yX7_keep : MethodName := ⟨RX7, "keep", "(II)I"⟩
abbrev cX7_row : ByteArray := prog_1_method_50_code
def yX7_row : MethodName := ⟨RX7, "row", "(III)I"⟩
abbrev cX7_put : ByteArray := prog_1_method_51_code
def yX7_put : MethodName := ⟨RX7, "put", "(IIJ)I"⟩
abbrev cX7_element : ByteArray := prog_1_method_52_code
def yX7_element : MethodName := ⟨RX7, "element", "(II)J"⟩
abbrev cX7_refusalOfPlace : ByteArray := prog_1_method_53_code
def yX7_refusalOfPlace : MethodName := ⟨RX7, "refusalOfPlace", "(II)I"⟩
abbrev cX7_shift : ByteArray := prog_1_method_54_code
def yX7_shift : MethodName := ⟨RX7, "shift", "(IIIII)I"⟩
abbrev cX7_taken : ByteArray := prog_1_method_55_code
def yX7_taken : MethodName := ⟨RX7, "taken", "(II)I"⟩
abbrev cX7_count : ByteArray := prog_1_method_56_code
def yX7_count : MethodName := ⟨RX7, "count", "(I)I"⟩
abbrev cX7_isBody : ByteArray := prog_1_method_57_code
def yX7_isBody : MethodName := ⟨RX7, "isBody", "(I)Z"⟩
abbrev cX7_isShelf : ByteArray := prog_1_method_58_code
def yX7_isShelf : MethodName := ⟨RX7, "isShelf", "(I)Z"⟩
abbrev cX7_isWithin : ByteArray := prog_1_method_59_code
def yX7_isWithin : MethodName := ⟨RX7, "isWithin", "(III)Z"⟩
def RX8 : String := "OneLegModel"
def TX8 : u_T := fun k => match k with
  | 0 => ("OneLegModel", "brothers", "I", false)
  | 1 => ("OneLegModel", "ways", "[I", true)
  | 2 => ("OneLegModel", "other", "[I", true)
  | 3 => ("OneLegModel", "taped", "I", false)
  | 4 => ("OneLegModel", "tape", "[I", true)
  | 5 => ("OneLegModel", "isTold", "Z", false)
  | 6 => ("OneLegModel", "lines", "I", false)
  | 7 => ("OneLegModel", "asks", "[I", true)
  | 8 => ("OneLegModel", "says", "[I", true)
  | 9 => ("OneLegModel", "ends", "[I", true)
  | 10 => ("OneLegModel", "code", "[I", true)
  | 11 => ("OneLegModel", "at", "I", false)
  | 12 => ("OneLegModel", "open", "I", false)
  | 13 => ("OneLegModel", "coded", "I", false)
  | 14 => ("OneLegModel", "newLines", "I", false)
  | 15 => ("OneLegModel", "newAsks", "[I", true)
  | 16 => ("OneLegModel", "newSays", "[I", true)
  | 17 => ("OneLegModel", "newEnds", "[I", true)
  | 18 => ("OneLegModel", "newCode", "[I", true)
  | 19 => ("OneLegModel", "stack", "[I", true)
  | 20 => ("OneLegModel", "names", "[I", true)
  | 21 => ("OneLegModel", "led", "[I", true)
  | 22 => ("OneLegModel", "imaged", "Z", false)
  | 23 => ("OneLegModel", "oldBrothers", "I", false)
  | 24 => ("OneLegModel", "old", "[I", true)
  | 25 => ("OneLegModel", "oldLed", "[I", true)
  | 26 => ("OneLegModel", "changes", "I", false)
  | 27 => ("OneLegModel", "done", "I", false)
  | 28 => ("OneLegModel", "changed", "[I", true)
  | 29 => ("OneLegModel", "bodies", "I", false)
  | 30 => ("OneLegModel", "bodyKind", "[I", true)
  | 31 => ("OneLegModel", "traced", "I", false)
  | 32 => ("OneLegModel", "traces", "[I", true)
  | 33 => ("OneLegModel", "holding", "[I", true)
  | 34 => ("OneLegModel", "rowLength", "[I", true)
  | 35 => ("OneLegModel", "rowOf", "[J", true)
  | 36 => ("OneLegModel", "was", "[I", true)
  | 37 => ("OneLegModel", "begun", "[I", true)
  | 38 => ("OneLegModel", "tried", "[I", true)
  | 39 => ("OneLegModel", "best", "[I", true)
  | 40 => ("OneLegModel", "most", "I", false)
  | 41 => ("OneLegModel", "least", "I", false)
  | _ => ("OneLegModel", "minutes", "[I", true)
def tyX8 : Nat → FieldType := fun k => match k with
  | 0 => .int
  | 1 => .array .int
  | 2 => .array .int
  | 3 => .int
  | 4 => .array .int
  | 5 => .boolean
  | 6 => .int
  | 7 => .array .int
  | 8 => .array .int
  | 9 => .array .int
  | 10 => .array .int
  | 11 => .int
  | 12 => .int
  | 13 => .int
  | 14 => .int
  | 15 => .array .int
  | 16 => .array .int
  | 17 => .array .int
  | 18 => .array .int
  | 19 => .array .int
  | 20 => .array .int
  | 21 => .array .int
  | 22 => .boolean
  | 23 => .int
  | 24 => .array .int
  | 25 => .array .int
  | 26 => .int
  | 27 => .int
  | 28 => .array .int
  | 29 => .int
  | 30 => .array .int
  | 31 => .int
  | 32 => .array .int
  | 33 => .array .int
  | 34 => .array .int
  | 35 => .array .long
  | 36 => .array .int
  | 37 => .array .int
  | 38 => .array .int
  | 39 => .array .int
  | 40 => .int
  | 41 => .int
  | _ => .array .int
theorem nmX8 : ∀ a, a < 43 → ∀ b, b < 43 → a ≠ b → (TX8 a).2.1 ≠ (TX8 b).2.1 := by decide +kernel
theorem tyX8_ok : ∀ k, k < 43 → parseFieldDescriptor (TX8 k).2.2.1 = some (tyX8 k) := by decide +kernel
abbrev cX8_init : ByteArray := prog_10_method_1_code
def yX8_init : MethodName := ⟨RX8, "<init>", "()V"⟩
abbrev cX8_within : ByteArray := prog_10_method_2_code
def yX8_within : MethodName := ⟨RX8, "within", "(III)Z"⟩
abbrev cX8_isOne : ByteArray := prog_10_method_3_code
def yX8_isOne : MethodName := ⟨RX8, "isOne", "(I)Z"⟩
abbrev cX8_isShelf : ByteArray := prog_10_method_4_code
def yX8_isShelf : MethodName := ⟨RX8, "isShelf", "(I)Z"⟩
abbrev cX8_has : ByteArray := prog_10_method_5_code
def yX8_has : MethodName := ⟨RX8, "has", "(II)Z"⟩
abbrev cX8_newOne : ByteArray := prog_10_method_6_code
def yX8_newOne : MethodName := ⟨RX8, "newOne", "(III)I"⟩
abbrev cX8_brother : ByteArray := prog_10_method_7_code
def yX8_brother : MethodName := ⟨RX8, "brother", "(I)I"⟩
abbrev cX8_brothers : ByteArray := prog_10_method_8_code
def yX8_brothers : MethodName := ⟨RX8, "brothers", "(III)I"⟩
abbrev cX8_toldAt : ByteArray := prog_10_method_9_code
def yX8_toldAt : MethodName := ⟨RX8, "toldAt", "(II)I"⟩
abbrev cX8_isOf : ByteArray := prog_10_method_10_code
def yX8_isOf : MethodName := ⟨RX8, "isOf", "(II)Z"⟩
abbrev cX8_isFit : ByteArray := prog_10_method_11_code
def yX8_isFit : MethodName := ⟨RX8, "isFit", "(II)Z"⟩
abbrev cX8_get : ByteArray := prog_10_method_12_code
def yX8_get : MethodName := ⟨RX8, "get", "(II)I"⟩
abbrev cX8_becomes : ByteArray := prog_10_method_13_code
def yX8_becomes : MethodName := ⟨RX8, "becomes", "(III)V"⟩
abbrev cX8_mend : ByteArray := prog_10_method_14_code
def yX8_mend : MethodName := ⟨RX8, "mend", "(III)I"⟩
abbrev cX8_of : ByteArray := prog_10_method_15_code
def yX8_of : MethodName := ⟨RX8, "of", "(II)I"⟩
abbrev cX8_undo : ByteArray := prog_10_method_16_code
def yX8_undo : MethodName := ⟨RX8, "undo", "()I"⟩
abbrev cX8_redo : ByteArray := prog_10_method_17_code
def yX8_redo : MethodName := ⟨RX8, "redo", "()I"⟩
abbrev cX8_feed : ByteArray := prog_10_method_18_code
def yX8_feed : MethodName := ⟨RX8, "feed", "(I)I"⟩
abbrev cX8_sign : ByteArray := prog_10_method_19_code
def yX8_sign : MethodName := ⟨RX8, "sign", "()I"⟩
abbrev cX8_is : ByteArray := prog_10_method_20_code
def yX8_is : MethodName := ⟨RX8, "is", "(I)Z"⟩
abbrev cX8_codes : ByteArray := prog_10_method_21_code
def yX8_codes : MethodName := ⟨RX8, "codes", "(I)Z"⟩
abbrev cX8_isDigit : ByteArray := prog_10_method_22_code
def yX8_isDigit : MethodName := ⟨RX8, "isDigit", "()Z"⟩
abbrev cX8_nameOf : ByteArray := prog_10_method_23_code
def yX8_nameOf : MethodName := ⟨RX8, "nameOf", "(I)I"⟩
abbrev cX8_isO : ByteArray := prog_10_method_24_code
def yX8_isO : MethodName := ⟨RX8, "isO", "()Z"⟩
abbrev cX8_isP : ByteArray := prog_10_method_25_code
def yX8_isP : MethodName := ⟨RX8, "isP", "()Z"⟩
abbrev cX8_isS : ByteArray := prog_10_method_26_code
def yX8_isS : MethodName := ⟨RX8, "isS", "()Z"⟩
abbrev cX8_isB : ByteArray := prog_10_method_27_code
def yX8_isB : MethodName := ⟨RX8, "isB", "()Z"⟩
abbrev cX8_isA : ByteArray := prog_10_method_28_code
def yX8_isA : MethodName := ⟨RX8, "isA", "()Z"⟩
abbrev cX8_isE : ByteArray := prog_10_method_29_code
def yX8_isE : MethodName := ⟨RX8, "isE", "()Z"⟩
abbrev cX8_isLine : ByteArray := prog_10_method_30_code
def yX8_isLine : MethodName := ⟨RX8, "isLine", "()Z"⟩
abbrev cX8_law : ByteArray := prog_10_method_31_code
def yX8_law : MethodName := ⟨RX8, "law", "()I"⟩
abbrev cX8_both : ByteArray := prog_10_method_32_code
def yX8_both : MethodName := ⟨RX8, "both", "(III)I"⟩
abbrev cX8_worked : ByteArray := prog_10_method_33_code
def yX8_worked : MethodName := ⟨RX8, "worked", "(II)I"⟩
abbrev cX8_wants : ByteArray := prog_10_method_34_code
def yX8_wants : MethodName := ⟨RX8, "wants", "(II)Z"⟩
abbrev cX8_byLaw : ByteArray := prog_10_method_35_code
def yX8_byLaw : MethodName := ⟨RX8, "byLaw", "(I)I"⟩
abbrev cX8_doneBy : ByteArray := prog_10_method_36_code
def yX8_doneBy : MethodName := ⟨RX8, "doneBy", "(I)I"⟩
abbrev cX8_does : ByteArray := prog_10_method_37_code
def yX8_does : MethodName := ⟨RX8, "does", "(I)I"⟩
abbrev cX8_passes : ByteArray := prog_10_method_38_code
def yX8_passes : MethodName := ⟨RX8, "passes", "(I)I"⟩
abbrev cX8_keeps : ByteArray := prog_10_method_39_code
def yX8_keeps : MethodName := ⟨RX8, "keeps", "([I)V"⟩
abbrev cX8_laysBack : ByteArray := prog_10_method_40_code
def yX8_laysBack : MethodName := ⟨RX8, "laysBack", "([I)V"⟩
abbrev cX8_allOwed : ByteArray := prog_10_method_41_code
def yX8_allOwed : MethodName := ⟨RX8, "allOwed", "()I"⟩
abbrev cX8_noBytes : ByteArray := prog_10_method_42_code
def yX8_noBytes : MethodName := ⟨RX8, "noBytes", "(I)I"⟩
abbrev cX8_daysOf : ByteArray := prog_10_method_43_code
def yX8_daysOf : MethodName := ⟨RX8, "daysOf", "(I)I"⟩
abbrev cX8_goes : ByteArray := prog_10_method_44_code
def yX8_goes : MethodName := ⟨RX8, "goes", "(II)I"⟩
abbrev cX8_later : ByteArray := prog_10_method_45_code
def yX8_later : MethodName := ⟨RX8, "later", "(IIII)I"⟩
abbrev cX8_deep : ByteArray := prog_10_method_46_code
def yX8_deep : MethodName := ⟨RX8, "deep", "(III)I"⟩
abbrev cX8_tries : ByteArray := prog_10_method_47_code
def yX8_tries : MethodName := ⟨RX8, "tries", "(II)V"⟩
abbrev cX8_bestRota : ByteArray := prog_10_method_48_code
def yX8_bestRota : MethodName := ⟨RX8, "bestRota", "(II)I"⟩
abbrev cX8_knownBy : ByteArray := prog_10_method_49_code
def yX8_knownBy : MethodName := ⟨RX8, "knownBy", "(I)I"⟩
abbrev cX8_told : ByteArray := prog_10_method_50_code
def yX8_told : MethodName := ⟨RX8, "told", "(III)I"⟩
abbrev cX8_parts : ByteArray := prog_10_method_51_code
def yX8_parts : MethodName := ⟨RX8, "parts", "(I)Z"⟩
abbrev cX8_apart : ByteArray := prog_10_method_52_code
def yX8_apart : MethodName := ⟨RX8, "apart", "(I)I"⟩
abbrev cX8_deals : ByteArray := prog_10_method_53_code
def yX8_deals : MethodName := ⟨RX8, "deals", "(III)V"⟩
abbrev cX8_week : ByteArray := prog_10_method_54_code
def yX8_week : MethodName := ⟨RX8, "week", "(I)I"⟩
abbrev cX8_slow : ByteArray := prog_10_method_55_code
def yX8_slow : MethodName := ⟨RX8, "slow", "(I)I"⟩
abbrev cX8_goOut : ByteArray := prog_10_method_56_code
def yX8_goOut : MethodName := ⟨RX8, "goOut", "(III)I"⟩
abbrev cX8_burns : ByteArray := prog_10_method_57_code
def yX8_burns : MethodName := ⟨RX8, "burns", "()V"⟩
abbrev cX8_fire : ByteArray := prog_10_method_58_code
def yX8_fire : MethodName := ⟨RX8, "fire", "(I)I"⟩
abbrev cX8_noDebts : ByteArray := prog_10_method_59_code
def yX8_noDebts : MethodName := ⟨RX8, "noDebts", "(I)I"⟩
abbrev cX8_unlike : ByteArray := prog_10_method_60_code
def yX8_unlike : MethodName := ⟨RX8, "unlike", "(II)I"⟩
abbrev cX8_judge : ByteArray := prog_10_method_61_code
def yX8_judge : MethodName := ⟨RX8, "judge", "(II)I"⟩
abbrev cX8_fits : ByteArray := prog_10_method_62_code
def yX8_fits : MethodName := ⟨RX8, "fits", "(III)I"⟩
abbrev cX8_turnFrom : ByteArray := prog_10_method_63_code
def yX8_turnFrom : MethodName := ⟨RX8, "turnFrom", "(III)I"⟩
abbrev cX8_turnBy : ByteArray := prog_10_method_64_code
def yX8_turnBy : MethodName := ⟨RX8, "turnBy", "(IIIZ)I"⟩
abbrev cX8_byTurns : ByteArray := prog_10_method_65_code
def yX8_byTurns : MethodName := ⟨RX8, "byTurns", "(III)I"⟩
abbrev cX8_drawn : ByteArray := prog_10_method_66_code
def yX8_drawn : MethodName := ⟨RX8, "drawn", "(III)I"⟩
abbrev cX8_day : ByteArray := prog_10_method_67_code
def yX8_day : MethodName := ⟨RX8, "day", "(I)I"⟩
abbrev cX8_tells : ByteArray := prog_10_method_68_code
def yX8_tells : MethodName := ⟨RX8, "tells", "(II)I"⟩
abbrev cX8_pays : ByteArray := prog_10_method_69_code
def yX8_pays : MethodName := ⟨RX8, "pays", "(III)I"⟩
abbrev cX8_cobble : ByteArray := prog_10_method_70_code
def yX8_cobble : MethodName := ⟨RX8, "cobble", "()I"⟩
abbrev cX8_led : ByteArray := prog_10_method_71_code
def yX8_led : MethodName := ⟨RX8, "led", "(I)I"⟩
abbrev cX8_image : ByteArray := prog_10_method_72_code
def yX8_image : MethodName := ⟨RX8, "image", "()I"⟩
abbrev cX8_back : ByteArray := prog_10_method_73_code
def yX8_back : MethodName := ⟨RX8, "back", "()I"⟩
abbrev cX8_above : ByteArray := prog_10_method_74_code
def yX8_above : MethodName := ⟨RX8, "above", "(I)I"⟩
abbrev cX8_ran : ByteArray := prog_10_method_75_code
def yX8_ran : MethodName := ⟨RX8, "ran", "(I)V"⟩
abbrev cX8_walksBy : ByteArray := prog_10_method_76_code
def yX8_walksBy : MethodName := ⟨RX8, "walksBy", "(III)I"⟩
abbrev cX8_leansBy : ByteArray := prog_10_method_77_code
def yX8_leansBy : MethodName := ⟨RX8, "leansBy", "(III)I"⟩
abbrev cX8_owesBy : ByteArray := prog_10_method_78_code
def yX8_owesBy : MethodName := ⟨RX8, "owesBy", "(III)I"⟩
abbrev cX8_tells_ : ByteArray := prog_10_method_79_code
def yX8_tells_ : MethodName := ⟨RX8, "tells", "(III)I"⟩
abbrev cX8_body : ByteArray := prog_10_method_80_code
def yX8_body : MethodName := ⟨RX8, "body", "(I)I"⟩
abbrev cX8_act : ByteArray := prog_10_method_81_code
def yX8_act : MethodName := ⟨RX8, "act", "(III)I"⟩
abbrev cX8_trace : ByteArray := prog_10_method_82_code
def yX8_trace : MethodName := ⟨RX8, "trace", "(I)I"⟩
abbrev cX8_keep : ByteArray := prog_10_method_83_code
def yX8_keep : MethodName := ⟨RX8, "keep", "(II)I"⟩
abbrev cX8_row : ByteArray := prog_10_method_84_code
def yX8_row : MethodName := ⟨RX8, "row", "(III)I"⟩
abbrev cX8_isRow : ByteArray := prog_10_method_85_code
def yX8_isRow : MethodName := ⟨RX8, "isRow", "(I)Z"⟩
abbrev cX8_kept : ByteArray := prog_10_method_86_code
def yX8_kept : MethodName := ⟨RX8, "kept", "(IJ)J"⟩
abbrev cX8_put : ByteArray := prog_10_method_87_code
def yX8_put : MethodName := ⟨RX8, "put", "(IIJ)I"⟩
abbrev cX8_element : ByteArray := prog_10_method_88_code
def yX8_element : MethodName := ⟨RX8, "element", "(II)J"⟩
abbrev cX8_shift : ByteArray := prog_10_method_89_code
def yX8_shift : MethodName := ⟨RX8, "shift", "(IIIII)I"⟩
abbrev cX8_taken : ByteArray := prog_10_method_90_code
def yX8_taken : MethodName := ⟨RX8, "taken", "(II)I"⟩
abbrev cX8_count : ByteArray := prog_10_method_91_code
def yX8_count : MethodName := ⟨RX8, "count", "(I)I"⟩
def RJ6 : String := "java/lang/Integer"
abbrev cJ6_bitCount_0f7a4 : ByteArray := prog_11_method_49_code
def yJ6_bitCount_0f7a4 : MethodName := ⟨RJ6, "bitCount", "(I)I"⟩
def RJ9 : String := "java/lang/Math"
abbrev cJ9_max_7cf53 : ByteArray := prog_12_method_65_code
def yJ9_max_7cf53 : MethodName := ⟨RJ9, "max", "(II)I"⟩
abbrev cJ9_min_7cf53 : ByteArray := prog_12_method_69_code
def yJ9_min_7cf53 : MethodName := ⟨RJ9, "min", "(II)I"⟩
def RJ10 : String := "java/lang/System"
abbrev vwCl : List vw_C := [(RX0, TX0, 4), (RX1, TX1, 6), (RX2, TX2, 7), (RX3, TX3, 8), (RX4, TX4, 4), (RX5, TX5, 4), (RX6, TX6, 10), (RX7, TX7, 11), (RX8, TX8, 43)]
theorem rf_mem {big : List Cond} (ws : List Cond) (ps : List Nat) (hp : ws = ps.filterMap (fun i => big[i]?)) : ∀ w ∈ ws, w ∈ big := by
  intro w hw
  rw [hp] at hw
  obtain ⟨i, -, hi⟩ := List.mem_filterMap.mp hw
  exact List.mem_of_getElem? hi
set_option maxRecDepth 20000 in
theorem inX0 : ∀ w ∈ u_ws RX0 TX0 4, w ∈ lw_tbl := rf_mem _ [289, 291, 293, 295] rfl
set_option maxRecDepth 20000 in
theorem inX1 : ∀ w ∈ u_ws RX1 TX1 6, w ∈ lw_tbl := rf_mem _ [262, 264, 266, 268, 270, 272] rfl
set_option maxRecDepth 20000 in
theorem inX2 : ∀ w ∈ u_ws RX2 TX2 7, w ∈ lw_tbl := rf_mem _ [158, 160, 162, 164, 166, 168, 170] rfl
set_option maxRecDepth 20000 in
theorem inX3 : ∀ w ∈ u_ws RX3 TX3 8, w ∈ lw_tbl := rf_mem _ [124, 126, 128, 130, 132, 134, 136, 138] rfl
set_option maxRecDepth 20000 in
theorem inX4 : ∀ w ∈ u_ws RX4 TX4 4, w ∈ lw_tbl := rf_mem _ [315, 317, 319, 321] rfl
set_option maxRecDepth 20000 in
theorem inX5 : ∀ w ∈ u_ws RX5 TX5 4, w ∈ lw_tbl := rf_mem _ [191, 193, 195, 197] rfl
set_option maxRecDepth 20000 in
theorem inX6 : ∀ w ∈ u_ws RX6 TX6 10, w ∈ lw_tbl := rf_mem _ [223, 225, 227, 229, 231, 233, 235, 237, 239, 241] rfl
set_option maxRecDepth 20000 in
theorem inX7 : ∀ w ∈ u_ws RX7 TX7 11, w ∈ lw_tbl := rf_mem _ [336, 338, 340, 342, 344, 346, 348, 350, 352, 354, 356] rfl
set_option maxRecDepth 20000 in
theorem inX8 : ∀ w ∈ u_ws RX8 TX8 43, w ∈ lw_tbl := rf_mem _ [882, 884, 886, 888, 890, 892, 894, 896, 898, 900, 902, 904, 906, 908, 910, 912, 914, 916, 918, 920, 922, 924, 926, 928, 930, 932, 934, 936, 938, 940, 942, 944, 946, 948, 950, 952, 954, 956, 958, 960, 962, 964, 966] rfl
end
section

/-! the abstract state: int fields, int arrays, long arrays, each by cell and place -/
abbrev rfS : Type := (Nat → Nat → Int32) × (Nat → Nat → Int32) × (Nat → Nat → Int64)
def gI (σ : rfS) (k j : Nat) : Int32 := σ.1 k j
def gF (σ : rfS) (k j : Nat) : Int32 := σ.2.1 k j
def gL (σ : rfS) (k j : Nat) : Int64 := σ.2.2 k j
def sI (σ : rfS) (k j : Nat) (v : Int32) : rfS := (fun a b => if a = k ∧ b = j then v else σ.1 a b, σ.2.1, σ.2.2)
def sF (σ : rfS) (k j : Nat) (v : Int32) : rfS := (σ.1, fun a => if a = k then upd (σ.2.1 k) j v else σ.2.1 a, σ.2.2)
def sL (σ : rfS) (k j : Nat) (v : Int64) : rfS := (σ.1, σ.2.1, fun a => if a = k then vp_updL (σ.2.2 k) j v else σ.2.2 a)
def cF (σ : rfS) (k k2 sp dp n : Nat) : rfS := (σ.1, fun a => if a = k2 then va_cpy (σ.2.1 k) (σ.2.1 k2) sp dp n else σ.2.1 a, σ.2.2)
def cL (σ : rfS) (k k2 sp dp n : Nat) : rfS := (σ.1, σ.2.1, fun a => if a = k2 then va_cpy (σ.2.2 k) (σ.2.2 k2) sp dp n else σ.2.2 a)
theorem gI_sI (σ : rfS) (k j : Nat) (v : Int32) (a b : Nat) : gI (sI σ k j v) a b = if a = k ∧ b = j then v else gI σ a b := rfl
theorem gI_sF (σ : rfS) (k j : Nat) (v : Int32) (a b : Nat) : gI (sF σ k j v) a b = gI σ a b := rfl
theorem gI_sL (σ : rfS) (k j : Nat) (v : Int64) (a b : Nat) : gI (sL σ k j v) a b = gI σ a b := rfl
theorem gF_sI (σ : rfS) (k j : Nat) (v : Int32) (a b : Nat) : gF (sI σ k j v) a b = gF σ a b := rfl
theorem gF_sF (σ : rfS) (k j : Nat) (v : Int32) (a b : Nat) : gF (sF σ k j v) a b = if a = k ∧ b = j then v else gF σ a b := by
  unfold gF sF
  by_cases h : a = k
  · subst h
    by_cases h2 : b = j
    · simp [upd, h2]
    · simp [upd, h2]
  · simp [h]
theorem gF_sL (σ : rfS) (k j : Nat) (v : Int64) (a b : Nat) : gF (sL σ k j v) a b = gF σ a b := rfl
theorem gL_sI (σ : rfS) (k j : Nat) (v : Int32) (a b : Nat) : gL (sI σ k j v) a b = gL σ a b := rfl
theorem gL_sF (σ : rfS) (k j : Nat) (v : Int32) (a b : Nat) : gL (sF σ k j v) a b = gL σ a b := rfl
theorem gL_sL (σ : rfS) (k j : Nat) (v : Int64) (a b : Nat) : gL (sL σ k j v) a b = if a = k ∧ b = j then v else gL σ a b := by
  unfold gL sL
  by_cases h : a = k
  · subst h
    by_cases h2 : b = j
    · simp [vp_updL, h2]
    · simp [vp_updL, h2]
  · simp [h]
theorem gI_cF (σ : rfS) (k k2 sp dp n a b : Nat) : gI (cF σ k k2 sp dp n) a b = gI σ a b := rfl
theorem gL_cF (σ : rfS) (k k2 sp dp n a b : Nat) : gL (cF σ k k2 sp dp n) a b = gL σ a b := rfl
theorem gF_cF (σ : rfS) (k k2 sp dp n a b : Nat) : gF (cF σ k k2 sp dp n) a b = if a = k2 ∧ dp ≤ b ∧ b < dp + n then gF σ k (sp + (b - dp)) else gF σ a b := by
  unfold gF cF va_cpy
  by_cases h : a = k2
  · subst h
    by_cases h2 : dp ≤ b ∧ b < dp + n
    · simp [h2]
    · simp [h2]
  · simp [h]
theorem gI_cL (σ : rfS) (k k2 sp dp n a b : Nat) : gI (cL σ k k2 sp dp n) a b = gI σ a b := rfl
theorem gF_cL (σ : rfS) (k k2 sp dp n a b : Nat) : gF (cL σ k k2 sp dp n) a b = gF σ a b := rfl
theorem gL_cL (σ : rfS) (k k2 sp dp n a b : Nat) : gL (cL σ k k2 sp dp n) a b = if a = k2 ∧ dp ≤ b ∧ b < dp + n then gL σ k (sp + (b - dp)) else gL σ a b := by
  unfold gL cL va_cpy
  by_cases h : a = k2
  · subst h
    by_cases h2 : dp ≤ b ∧ b < dp + n
    · simp [h2]
    · simp [h2]
  · simp [h]
/-! a layout: how many cells; of which kind (0 ints, 1 longs, 2 and 3 references, c + 4 an object of class c); how long; where fields and rows point -/
abbrev rfL : Type := Nat × (Nat → Nat) × (Nat → Nat) × (Nat → Nat → Nat → Option Nat) × (Nat → Nat → Nat)
def rfN (c : Nat) : Nat := match vwCl[c]? with
  | some q => q.2.2
  | none => 0
def rfV (ad : Nat → Nat) (v : Value) : Value := match v with
  | .ref k => .ref (ad k)
  | w => w
def rfFl (Λ : rfL) (σ : rfS) (c k j : Nat) : Value := match Λ.2.2.2.1 c k j with
  | some q => .ref q
  | none => .int (σ.1 k j)
def rfCell (Λ : rfL) (tc : Nat → ClassId) (ad : Nat → Nat) (σ : rfS) (k : Nat) : va_E := match Λ.2.1 k with
  | 0 => .inl (tc 0, Λ.2.2.1 k, .inl (σ.2.1 k))
  | 1 => .inl (tc 1, Λ.2.2.1 k, .inr (.inl (σ.2.2 k)))
  | 2 => .inl (tc 2, Λ.2.2.1 k, .inr (.inr (.inr (.inr (fun j => some (ad (Λ.2.2.2.2 k j)))))))
  | 3 => .inl (tc 3, Λ.2.2.1 k, .inr (.inr (.inr (.inr (fun j => some (ad (Λ.2.2.2.2 k j)))))))
  | c + 4 => .inr (c, (List.range (rfN c)).map (fun j => rfV ad (rfFl Λ σ c k j)))
def rfW (Λ : rfL) (tc : Nat → ClassId) (ad : Nat → Nat) (σ : rfS) : va_W := (List.range Λ.1).map (fun k => (ad k, rfCell Λ tc ad σ k))
def rfT (tc : Nat → ClassId) : List (ClassId × FieldType) := [(tc 0, .int), (tc 1, .long), (tc 2, .object "OneLeg$Standing"), (tc 3, .object "OneLeg$Shelf")]
def rfA (Λ : rfL) (ad : Nat → Nat) (sz : Nat) : Nat → Prop := fun q => (∃ k, k < Λ.1 ∧ q = ad k) ∨ sz ≤ q
def rfG : List Cond := lw_tbl.filter goodWord
theorem rf_g {w : Cond} (h : w ∈ lw_tbl) (hg : goodWord w = true) : w ∈ rfG := List.mem_filter.mpr ⟨h, hg⟩
theorem rf_gl {w : Cond} (i : Nat) (h : lw_tbl[i]? = some w) (hg : goodWord w = true) : w ∈ rfG := rf_g (List.mem_of_getElem? h) hg
theorem rf_good {ws : List Cond} (h : ∀ w ∈ ws, w ∈ rfG) : GoodIn rfG ws := fun w hw => ⟨h w hw, good_of_word (List.mem_filter.mp (h w hw)).2⟩
def rfR (d : Nat) : Room := { frames := d, cells := 0, slots := 0, locals := 64 * d }
/-! the class's four static rows -/
def rfSL : List (Nat × String × String × List Int32) := [(1000, "OneLeg", "LEAST_OF", [0, 0, 0, 1, 0, 0, 0, 0]), (1001, "OneLeg", "MOST_OF", [127, 99, 255, 9, 3, 7, 99, 6]), (1002, "OneLeg$Boots", "ABOVE", [-1, 0, 0, 2, 1, 3, 0, 4]), (1003, "OneLeg$Boots", "BODIES", [1, 10, 11, 2, 20, 0, 0, 0, 0, 30, 0, 0, 0, 41, 40, 0, 0, 0, 50, 0, 0, 0, 0, 60, 70, 0, 0, 0, 0, 80, 0, 81])]
def rfSt (ad : Nat → Nat) (b0 : Nat) (s : State) (H : Heap) : Prop := ∀ q ∈ rfSL, va_Z q.2.1 q.2.2.1 "[I" (.ref (ad q.1)) (fun x => b0 ≤ x) s H ∧ va_T .int (ad q.1) q.2.2.2.length (fun j => .int (q.2.2.2.getD j 0)) (fun x => b0 ≤ x) s H
theorem rfSt.moved {ad : Nat → Nat} {b0 : Nat} {s t : State} {H : Heap} (hv : s.vm.Alike t.vm) (h : rfSt ad b0 s H) : rfSt ad b0 t H := fun q hq => ⟨(h q hq).1.moved hv, (h q hq).2.moved hv⟩
theorem rfSt.kept {ad : Nat → Nat} {b0 : Nat} {s : State} {H H1 : Heap} (h : rfSt ad b0 s H) (hq : ∀ a : Nat, a < H.size → ¬ b0 ≤ a → H1[a]? = H[a]?) : rfSt ad b0 s H1 := fun q h1 => ⟨(h q h1).1.kept hq, (h q h1).2.kept hq⟩
def rfInj (Λ : rfL) (ad : Nat → Nat) (b0 : Nat) : Prop := (∀ i j, i < Λ.1 → j < Λ.1 → ad i = ad j → i = j) ∧ ∀ k, k < Λ.1 → b0 ≤ ad k
/-- the world of a state -/
def rfB (Λ : rfL) (D : va_G) (tc : Nat → ClassId) (ad : Nat → Nat) (b0 : Nat) (σ : rfS) (U : State) : Prop :=
  va_P D vwCl (rfW Λ tc ad σ) U.heap ∧ va_K D vwCl (rfT tc) U ∧ rfInj Λ ad b0 ∧ b0 ≤ U.heap.size ∧ rfSt ad b0 U U.heap
def rfQ (Λ : rfL) (D : va_G) (tc : Nat → ClassId) (ad : Nat → Nat) (b0 sz : Nat) (Q : Option Value → rfS → Prop) : Array Value → State → Outcome → State → Prop := fun _ st oc t =>
  (∃ (r : Option Value) (σ : rfS), oc = .returned (r.map (rfV ad)) ∧ Q r σ ∧ rfB Λ D tc ad b0 σ t) ∧ va_F (rfA Λ ad sz) st t
/-- a method's contract: from the state σ with these arguments it ends with Q -/
def RM (Λ : rfL) (d : Nat) (y : MethodName) (cc : ByteArray) (nL : Nat) (ret : Option FieldType) (as : List Value) (σ : rfS) (Q : Option Value → rfS → Prop) : Prop :=
  ∀ (l : Launch) (D : va_G) (tc : Nat → ClassId) (ad : Nat → Nat) (b0 sz : Nat), Met l y (Cond.code y cc nL ret :: rfG) (rfR d) (va_Pc (as.map (rfV ad)) (fun U => U.heap.size = sz ∧ rfB Λ D tc ad b0 σ U)) (rfQ Λ D tc ad b0 sz Q) 0 0 (rfA Λ ad sz)
abbrev rfE : Type := Program × Launch × Env × State × MethodId × Array Value × List Frame × Method × Code × va_G × (Nat → ClassId) × (Nat → Nat) × Nat
def rfX (Λ : rfL) (E : rfE) (y : MethodName) (cc : ByteArray) (nL : Nat) (ret : Option FieldType) : Prop := match E with
  | (p, _, _, s, m, args, _, meth, c, D, tc, ad, b0) => p.tables.exec = Jvm.exec ∧ c.code = cc ∧ meth.sig.returnType = ret ∧ c.maxLocals = nL ∧ s.vm.findClass y.cls = some m.cls ∧ (∀ w ∈ rfG, w.before args s = true) ∧ meth.locks = false ∧ va_K D vwCl (rfT tc) s ∧ rfInj Λ ad b0 ∧ b0 ≤ s.heap.size ∧ rfSt ad b0 s s.heap
/-- the machine, now in this method at pc, comes to its end with Q -/
def Rf (Λ : rfL) (d : Nat) (E : rfE) (nL : Nat) (Q : Option Value → rfS → Prop) (pc : Nat) (ls : List (Nat × Value)) (st : List Value) (σ : rfS) : Prop := match E with
  | (p, l, e, s, m, args, below, meth, c, D, tc, ad, b0) => ∀ (H : Heap) (locs : List Loc) (la : Array Slot), va_P D vwCl (rfW Λ tc ad σ) H → va_S (rfA Λ ad s.heap.size) s.heap H locs → lv_has la nL (ls.map (fun q => (q.1, rfV ad q.2))) →
      W p l e (rfR d) s m args below meth c H locs 0 0 (MQ below (rfQ Λ D tc ad b0 s.heap.size Q) args s 0 0 (rfA Λ ad s.heap.size)) (F0 m pc la (st.map (rfV ad)))
theorem rfV_cat (ad : Nat → Nat) (v : Value) : (rfV ad v).category = v.category := by cases v <;> rfl
theorem rfW_at {Λ : rfL} {tc : Nat → ClassId} {ad : Nat → Nat} {σ : rfS} {k : Nat} (h : k < Λ.1) : (rfW Λ tc ad σ)[k]? = some (ad k, rfCell Λ tc ad σ k) := by
  simp [rfW, List.getElem?_map, List.getElem?_range h]
theorem rfW_set {Λ : rfL} {tc : Nat → ClassId} {ad : Nat → Nat} {σ σ' : rfS} {k : Nat} {e : va_E} (hk : rfCell Λ tc ad σ' k = e) (ho : ∀ j, j ≠ k → rfCell Λ tc ad σ' j = rfCell Λ tc ad σ j) : (rfW Λ tc ad σ).set k (ad k, e) = rfW Λ tc ad σ' := by
  apply List.ext_getElem?
  intro i
  rw [List.getElem?_set]
  by_cases hi : i < Λ.1
  · rw [rfW_at hi, rfW_at hi]
    by_cases hki : k = i
    · subst hki
      simp [rfW, hi, hk]
    · rw [if_neg hki, ho i (fun q => hki q.symm)]
  · have h1 : (rfW Λ tc ad σ)[i]? = none := List.getElem?_eq_none (by simp [rfW]; omega)
    have h2 : (rfW Λ tc ad σ')[i]? = none := List.getElem?_eq_none (by simp [rfW]; omega)
    rw [h1, h2]
    by_cases hki : k = i
    · subst hki
      simp [rfW, hi]
    · rw [if_neg hki]
theorem rfW_D {Λ : rfL} {tc : Nat → ClassId} {ad : Nat → Nat} {b0 sz : Nat} (σ : rfS) (h : rfInj Λ ad b0) : va_D (rfA Λ ad sz) (rfW Λ tc ad σ) := by
  have at' : ∀ (i : Nat) (q : Nat × va_E), (rfW Λ tc ad σ)[i]? = some q → i < Λ.1 ∧ q.1 = ad i := by
    intro i q hq
    by_cases hi : i < Λ.1
    · rw [rfW_at hi] at hq
      cases hq
      exact ⟨hi, rfl⟩
    · rw [List.getElem?_eq_none (by simp [rfW]; omega)] at hq
      cases hq
  refine ⟨fun i j p q hp hq e => ?_, fun k q hq => ?_⟩
  · obtain ⟨a1, a2⟩ := at' i p hp
    obtain ⟨b1, b2⟩ := at' j q hq
    exact h.1 i j a1 b1 (by rw [← a2, ← b2]; exact e)
  · obtain ⟨a1, a2⟩ := at' k q hq
    exact Or.inl ⟨k, a1, a2⟩
theorem rf_map {ad : Nat → Nat} {ls : List (Nat × Value)} {k i : Nat} {v : Value} (h : ls[k]? = some (i, v)) : (ls.map (fun q => (q.1, rfV ad q.2)))[k]? = some (i, rfV ad v) := by
  simp [List.getElem?_map, h]
theorem rf_filt {ad : Nat → Nat} {ls : List (Nat × Value)} (f : Nat → Nat → Bool) : (ls.map (fun q => (q.1, rfV ad q.2))).filter (fun q => f q.1 q.2.category) = (ls.filter (fun q => f q.1 q.2.category)).map (fun q => (q.1, rfV ad q.2)) := by
  rw [List.filter_map]
  congr 1
  apply List.filter_congr
  intro q _
  simp [Function.comp, rfV_cat]


section RfRules
variable {Λ : rfL} {d : Nat} {E : rfE} {y : MethodName} {cc : ByteArray} {nL : Nat} {ret : Option FieldType} {Q : Option Value → rfS → Prop} {pc pc2 : Nat} {ls ls2 : List (Nat × Value)} {st : List Value} {σ : rfS}

theorem Rf_iconst (X : rfX Λ E y cc nL ret) {n : Int} {v : Int32} (hv : Int32.ofInt n = v) (hd : decode cc pc = .ok (.iconst n, 1)) (hp : pc + 1 = pc2) (k : Rf Λ d E nL Q pc2 ls (.int v :: st) σ) : Rf Λ d E nL Q pc ls st σ := by
  subst hp
  obtain ⟨p, l, e, s, m, args, below, meth, c, D, tc, ad, b0⟩ := E
  intro H locs la hP hS hl
  obtain ⟨hx, hb, hr, hml, hown, hts, hlk, hK, hI, hz, hSt⟩ := X
  exact lv_iconst hx hb hd hv (k H locs la hP hS hl)
theorem Rf_bipush (X : rfX Λ E y cc nL ret) {n : Int} {v : Int32} (hv : (Int8.ofInt n).toInt32 = v) (hd : decode cc pc = .ok (.bipush n, 2)) (hp : pc + 2 = pc2) (k : Rf Λ d E nL Q pc2 ls (.int v :: st) σ) : Rf Λ d E nL Q pc ls st σ := by
  subst hp
  obtain ⟨p, l, e, s, m, args, below, meth, c, D, tc, ad, b0⟩ := E
  intro H locs la hP hS hl
  obtain ⟨hx, hb, hr, hml, hown, hts, hlk, hK, hI, hz, hSt⟩ := X
  exact lv_bipush hx hb hd hv (k H locs la hP hS hl)
theorem Rf_sipush (X : rfX Λ E y cc nL ret) {n : Int} {v : Int32} (hv : (Int16.ofInt n).toInt32 = v) (hd : decode cc pc = .ok (.sipush n, 3)) (hp : pc + 3 = pc2) (k : Rf Λ d E nL Q pc2 ls (.int v :: st) σ) : Rf Λ d E nL Q pc ls st σ := by
  subst hp
  obtain ⟨p, l, e, s, m, args, below, meth, c, D, tc, ad, b0⟩ := E
  intro H locs la hP hS hl
  obtain ⟨hx, hb, hr, hml, hown, hts, hlk, hK, hI, hz, hSt⟩ := X
  exact lv_sipush hx hb hd hv (k H locs la hP hS hl)
theorem Rf_lconst (X : rfX Λ E y cc nL ret) {n : Fin 2} {v : Int64} (hv : Int64.ofNat (n : Nat) = v) (hd : decode cc pc = .ok (.lconst n, 1)) (hp : pc + 1 = pc2) (k : Rf Λ d E nL Q pc2 ls (.long v :: st) σ) : Rf Λ d E nL Q pc ls st σ := by
  subst hp
  obtain ⟨p, l, e, s, m, args, below, meth, c, D, tc, ad, b0⟩ := E
  intro H locs la hP hS hl
  obtain ⟨hx, hb, hr, hml, hown, hts, hlk, hK, hI, hz, hSt⟩ := X
  exact lv_lconst hx hb hd hv (k H locs la hP hS hl)
theorem Rf_ldc (X : rfX Λ E y cc nL ret) {ix : Nat} {v : Int32} (hw : Cond.constant y.cls ix v ∈ rfG) (hd : decode cc pc = .ok (.ldc ix, 2)) (hp : pc + 2 = pc2) (k : Rf Λ d E nL Q pc2 ls (.int v :: st) σ) : Rf Λ d E nL Q pc ls st σ := by
  subst hp
  obtain ⟨p, l, e, s, m, args, below, meth, c, D, tc, ad, b0⟩ := E
  intro H locs la hP hS hl
  obtain ⟨hx, hb, hr, hml, hown, hts, hlk, hK, hI, hz, hSt⟩ := X
  exact lv_ldc hx hb hown (hts _ hw) hd (k H locs la hP hS hl)
theorem Rf_ldcw (X : rfX Λ E y cc nL ret) {ix : Nat} {v : Int32} (hw : Cond.constant y.cls ix v ∈ rfG) (hd : decode cc pc = .ok (.ldc_w ix, 3)) (hp : pc + 3 = pc2) (k : Rf Λ d E nL Q pc2 ls (.int v :: st) σ) : Rf Λ d E nL Q pc ls st σ := by
  subst hp
  obtain ⟨p, l, e, s, m, args, below, meth, c, D, tc, ad, b0⟩ := E
  intro H locs la hP hS hl
  obtain ⟨hx, hb, hr, hml, hown, hts, hlk, hK, hI, hz, hSt⟩ := X
  exact lv_ldcw hx hb hown (hts _ hw) hd (k H locs la hP hS hl)
theorem Rf_ldc2 (X : rfX Λ E y cc nL ret) {ix : Nat} {v : Int64} (hw : Cond.constantLong y.cls ix v ∈ rfG) (hd : decode cc pc = .ok (.ldc2_w ix, 3)) (hp : pc + 3 = pc2) (k : Rf Λ d E nL Q pc2 ls (.long v :: st) σ) : Rf Λ d E nL Q pc ls st σ := by
  subst hp
  obtain ⟨p, l, e, s, m, args, below, meth, c, D, tc, ad, b0⟩ := E
  intro H locs la hP hS hl
  obtain ⟨hx, hb, hr, hml, hown, hts, hlk, hK, hI, hz, hSt⟩ := X
  exact lv_ldc2 hx hb hown (hts _ hw) hd (k H locs la hP hS hl)
theorem Rf_iload_n (X : rfX Λ E y cc nL ret) {n : Fin 4} {i j : Nat} {x : Int32} (hi : (n : Nat) = i) (hj : ls[j]? = some (i, .int x)) (hd : decode cc pc = .ok (.iload_n n, 1)) (hp : pc + 1 = pc2) (k : Rf Λ d E nL Q pc2 ls (.int x :: st) σ) : Rf Λ d E nL Q pc ls st σ := by
  subst hp
  obtain ⟨p, l, e, s, m, args, below, meth, c, D, tc, ad, b0⟩ := E
  intro H locs la hP hS hl
  obtain ⟨hx, hb, hr, hml, hown, hts, hlk, hK, hI, hz, hSt⟩ := X
  exact lv_iload_n hx hb hd hi (lv_at hl j (rf_map hj)) (k H locs la hP hS hl)
theorem Rf_iload (X : rfX Λ E y cc nL ret) {i j : Nat} {x : Int32} (hj : ls[j]? = some (i, .int x)) (hd : decode cc pc = .ok (.iload i, 2)) (hp : pc + 2 = pc2) (k : Rf Λ d E nL Q pc2 ls (.int x :: st) σ) : Rf Λ d E nL Q pc ls st σ := by
  subst hp
  obtain ⟨p, l, e, s, m, args, below, meth, c, D, tc, ad, b0⟩ := E
  intro H locs la hP hS hl
  obtain ⟨hx, hb, hr, hml, hown, hts, hlk, hK, hI, hz, hSt⟩ := X
  exact lv_iload hx hb hd (lv_at hl j (rf_map hj)) (k H locs la hP hS hl)
theorem Rf_lload_n (X : rfX Λ E y cc nL ret) {n : Fin 4} {i j : Nat} {x : Int64} (hi : (n : Nat) = i) (hj : ls[j]? = some (i, .long x)) (hd : decode cc pc = .ok (.lload_n n, 1)) (hp : pc + 1 = pc2) (k : Rf Λ d E nL Q pc2 ls (.long x :: st) σ) : Rf Λ d E nL Q pc ls st σ := by
  subst hp
  obtain ⟨p, l, e, s, m, args, below, meth, c, D, tc, ad, b0⟩ := E
  intro H locs la hP hS hl
  obtain ⟨hx, hb, hr, hml, hown, hts, hlk, hK, hI, hz, hSt⟩ := X
  exact lv_lload_n hx hb hd hi (lv_at hl j (rf_map hj)) (k H locs la hP hS hl)
theorem Rf_lload (X : rfX Λ E y cc nL ret) {i j : Nat} {x : Int64} (hj : ls[j]? = some (i, .long x)) (hd : decode cc pc = .ok (.lload i, 2)) (hp : pc + 2 = pc2) (k : Rf Λ d E nL Q pc2 ls (.long x :: st) σ) : Rf Λ d E nL Q pc ls st σ := by
  subst hp
  obtain ⟨p, l, e, s, m, args, below, meth, c, D, tc, ad, b0⟩ := E
  intro H locs la hP hS hl
  obtain ⟨hx, hb, hr, hml, hown, hts, hlk, hK, hI, hz, hSt⟩ := X
  exact lv_lload hx hb hd (lv_at hl j (rf_map hj)) (k H locs la hP hS hl)
theorem Rf_aload_n (X : rfX Λ E y cc nL ret) {n : Fin 4} {i j : Nat} {x : Nat} (hi : (n : Nat) = i) (hj : ls[j]? = some (i, .ref x)) (hd : decode cc pc = .ok (.aload_n n, 1)) (hp : pc + 1 = pc2) (k : Rf Λ d E nL Q pc2 ls (.ref x :: st) σ) : Rf Λ d E nL Q pc ls st σ := by
  subst hp
  obtain ⟨p, l, e, s, m, args, below, meth, c, D, tc, ad, b0⟩ := E
  intro H locs la hP hS hl
  obtain ⟨hx, hb, hr, hml, hown, hts, hlk, hK, hI, hz, hSt⟩ := X
  exact lv_aload_n hx hb hd hi (lv_at hl j (rf_map hj)) (k H locs la hP hS hl)
theorem Rf_aload (X : rfX Λ E y cc nL ret) {i j : Nat} {x : Nat} (hj : ls[j]? = some (i, .ref x)) (hd : decode cc pc = .ok (.aload i, 2)) (hp : pc + 2 = pc2) (k : Rf Λ d E nL Q pc2 ls (.ref x :: st) σ) : Rf Λ d E nL Q pc ls st σ := by
  subst hp
  obtain ⟨p, l, e, s, m, args, below, meth, c, D, tc, ad, b0⟩ := E
  intro H locs la hP hS hl
  obtain ⟨hx, hb, hr, hml, hown, hts, hlk, hK, hI, hz, hSt⟩ := X
  exact lv_aload hx hb hd (lv_at hl j (rf_map hj)) (k H locs la hP hS hl)
theorem Rf_istore_n (X : rfX Λ E y cc nL ret) {n : Fin 4} {i : Nat} (hi : (n : Nat) = i) {x : Int32} (hn : i < nL) (hls : (i, Value.int x) :: ls.filter (fun q => !(q.1 == i) && !(q.1 + 1 == i && q.2.category == 2)) = ls2) (hd : decode cc pc = .ok (.istore_n n, 1)) (hp : pc + 1 = pc2) (k : Rf Λ d E nL Q pc2 ls2 st σ) : Rf Λ d E nL Q pc ls (.int x :: st) σ := by
  subst hp
  obtain ⟨p, l, e, s, m, args, below, meth, c, D, tc, ad, b0⟩ := E
  intro H locs la hP hS hl
  obtain ⟨hx, hb, hr, hml, hown, hts, hlk, hK, hI, hz, hSt⟩ := X
  refine lv_istore_n hx hb hd hi hl hn (lv' := ls2.map (fun q => (q.1, rfV ad q.2))) ?_ (fun la2 hl2 => k H locs la2 hP hS hl2)
  rw [← hls, List.map_cons]
  exact congrArg _ (rf_filt (fun a b => !(a == i) && !(a + 1 == i && b == 2)))
theorem Rf_istore (X : rfX Λ E y cc nL ret) {i : Nat} {x : Int32} (hn : i < nL) (hls : (i, Value.int x) :: ls.filter (fun q => !(q.1 == i) && !(q.1 + 1 == i && q.2.category == 2)) = ls2) (hd : decode cc pc = .ok (.istore i, 2)) (hp : pc + 2 = pc2) (k : Rf Λ d E nL Q pc2 ls2 st σ) : Rf Λ d E nL Q pc ls (.int x :: st) σ := by
  subst hp
  obtain ⟨p, l, e, s, m, args, below, meth, c, D, tc, ad, b0⟩ := E
  intro H locs la hP hS hl
  obtain ⟨hx, hb, hr, hml, hown, hts, hlk, hK, hI, hz, hSt⟩ := X
  refine lv_istore hx hb hd hl hn (lv' := ls2.map (fun q => (q.1, rfV ad q.2))) ?_ (fun la2 hl2 => k H locs la2 hP hS hl2)
  rw [← hls, List.map_cons]
  exact congrArg _ (rf_filt (fun a b => !(a == i) && !(a + 1 == i && b == 2)))
theorem Rf_astore_n (X : rfX Λ E y cc nL ret) {n : Fin 4} {i : Nat} (hi : (n : Nat) = i) {x : Nat} (hn : i < nL) (hls : (i, Value.ref x) :: ls.filter (fun q => !(q.1 == i) && !(q.1 + 1 == i && q.2.category == 2)) = ls2) (hd : decode cc pc = .ok (.astore_n n, 1)) (hp : pc + 1 = pc2) (k : Rf Λ d E nL Q pc2 ls2 st σ) : Rf Λ d E nL Q pc ls (.ref x :: st) σ := by
  subst hp
  obtain ⟨p, l, e, s, m, args, below, meth, c, D, tc, ad, b0⟩ := E
  intro H locs la hP hS hl
  obtain ⟨hx, hb, hr, hml, hown, hts, hlk, hK, hI, hz, hSt⟩ := X
  refine lv_astore_n hx hb hd hi hl hn (lv' := ls2.map (fun q => (q.1, rfV ad q.2))) ?_ (fun la2 hl2 => k H locs la2 hP hS hl2)
  rw [← hls, List.map_cons]
  exact congrArg _ (rf_filt (fun a b => !(a == i) && !(a + 1 == i && b == 2)))
theorem Rf_astore (X : rfX Λ E y cc nL ret) {i : Nat} {x : Nat} (hn : i < nL) (hls : (i, Value.ref x) :: ls.filter (fun q => !(q.1 == i) && !(q.1 + 1 == i && q.2.category == 2)) = ls2) (hd : decode cc pc = .ok (.astore i, 2)) (hp : pc + 2 = pc2) (k : Rf Λ d E nL Q pc2 ls2 st σ) : Rf Λ d E nL Q pc ls (.ref x :: st) σ := by
  subst hp
  obtain ⟨p, l, e, s, m, args, below, meth, c, D, tc, ad, b0⟩ := E
  intro H locs la hP hS hl
  obtain ⟨hx, hb, hr, hml, hown, hts, hlk, hK, hI, hz, hSt⟩ := X
  refine lv_astore hx hb hd hl hn (lv' := ls2.map (fun q => (q.1, rfV ad q.2))) ?_ (fun la2 hl2 => k H locs la2 hP hS hl2)
  rw [← hls, List.map_cons]
  exact congrArg _ (rf_filt (fun a b => !(a == i) && !(a + 1 == i && b == 2)))
theorem Rf_lstore_n (X : rfX Λ E y cc nL ret) {n : Fin 4} {i : Nat} (hi : (n : Nat) = i) {x : Int64} (hn : i + 1 < nL) (hls : (i, Value.long x) :: ls.filter (fun q => !(q.1 == i) && (!(q.1 == i + 1) && !(q.1 + 1 == i && q.2.category == 2))) = ls2) (hd : decode cc pc = .ok (.lstore_n n, 1)) (hp : pc + 1 = pc2) (k : Rf Λ d E nL Q pc2 ls2 st σ) : Rf Λ d E nL Q pc ls (.long x :: st) σ := by
  subst hp
  obtain ⟨p, l, e, s, m, args, below, meth, c, D, tc, ad, b0⟩ := E
  intro H locs la hP hS hl
  obtain ⟨hx, hb, hr, hml, hown, hts, hlk, hK, hI, hz, hSt⟩ := X
  refine lv_lstore_n hx hb hd hi hl hn (lv' := ls2.map (fun q => (q.1, rfV ad q.2))) ?_ (fun la2 hl2 => k H locs la2 hP hS hl2)
  rw [← hls, List.map_cons]
  exact congrArg _ (rf_filt (fun a b => !(a == i) && (!(a == i + 1) && !(a + 1 == i && b == 2))))
theorem Rf_lstore (X : rfX Λ E y cc nL ret) {i : Nat} {x : Int64} (hn : i + 1 < nL) (hls : (i, Value.long x) :: ls.filter (fun q => !(q.1 == i) && (!(q.1 == i + 1) && !(q.1 + 1 == i && q.2.category == 2))) = ls2) (hd : decode cc pc = .ok (.lstore i, 2)) (hp : pc + 2 = pc2) (k : Rf Λ d E nL Q pc2 ls2 st σ) : Rf Λ d E nL Q pc ls (.long x :: st) σ := by
  subst hp
  obtain ⟨p, l, e, s, m, args, below, meth, c, D, tc, ad, b0⟩ := E
  intro H locs la hP hS hl
  obtain ⟨hx, hb, hr, hml, hown, hts, hlk, hK, hI, hz, hSt⟩ := X
  refine lv_lstore hx hb hd hl hn (lv' := ls2.map (fun q => (q.1, rfV ad q.2))) ?_ (fun la2 hl2 => k H locs la2 hP hS hl2)
  rw [← hls, List.map_cons]
  exact congrArg _ (rf_filt (fun a b => !(a == i) && (!(a == i + 1) && !(a + 1 == i && b == 2))))
theorem Rf_iinc (X : rfX Λ E y cc nL ret) {i j : Nat} {n : Int} {x v : Int32} (hj : ls[j]? = some (i, .int x)) (hv : x + Int32.ofInt n = v) (hn : i < nL) (hls : (i, Value.int v) :: ls.filter (fun q => !(q.1 == i) && !(q.1 + 1 == i && q.2.category == 2)) = ls2) (hd : decode cc pc = .ok (.iinc i n, 3)) (hp : pc + 3 = pc2) (k : Rf Λ d E nL Q pc2 ls2 st σ) : Rf Λ d E nL Q pc ls st σ := by
  subst hp
  obtain ⟨p, l, e, s, m, args, below, meth, c, D, tc, ad, b0⟩ := E
  intro H locs la hP hS hl
  obtain ⟨hx, hb, hr, hml, hown, hts, hlk, hK, hI, hz, hSt⟩ := X
  refine lv_iinc hx hb hd hl (rf_map hj) hv hn (lv' := ls2.map (fun q => (q.1, rfV ad q.2))) ?_ (fun la2 hl2 => k H locs la2 hP hS hl2)
  rw [← hls, List.map_cons]
  exact congrArg _ (rf_filt (fun a b => !(a == i) && !(a + 1 == i && b == 2)))
theorem Rf_iadd (X : rfX Λ E y cc nL ret) {x z : Int32} (hd : decode cc pc = .ok (.iadd, 1)) (hp : pc + 1 = pc2) (k : Rf Λ d E nL Q pc2 ls (.int (x + z) :: st) σ) : Rf Λ d E nL Q pc ls (.int z :: .int x :: st) σ := by
  subst hp
  obtain ⟨p, l, e, s, m, args, below, meth, c, D, tc, ad, b0⟩ := E
  intro H locs la hP hS hl
  obtain ⟨hx, hb, hr, hml, hown, hts, hlk, hK, hI, hz, hSt⟩ := X
  exact lv_iadd hx hb hd (k H locs la hP hS hl)
theorem Rf_isub (X : rfX Λ E y cc nL ret) {x z : Int32} (hd : decode cc pc = .ok (.isub, 1)) (hp : pc + 1 = pc2) (k : Rf Λ d E nL Q pc2 ls (.int (x - z) :: st) σ) : Rf Λ d E nL Q pc ls (.int z :: .int x :: st) σ := by
  subst hp
  obtain ⟨p, l, e, s, m, args, below, meth, c, D, tc, ad, b0⟩ := E
  intro H locs la hP hS hl
  obtain ⟨hx, hb, hr, hml, hown, hts, hlk, hK, hI, hz, hSt⟩ := X
  exact lv_isub hx hb hd (k H locs la hP hS hl)
theorem Rf_imul (X : rfX Λ E y cc nL ret) {x z : Int32} (hd : decode cc pc = .ok (.imul, 1)) (hp : pc + 1 = pc2) (k : Rf Λ d E nL Q pc2 ls (.int (x * z) :: st) σ) : Rf Λ d E nL Q pc ls (.int z :: .int x :: st) σ := by
  subst hp
  obtain ⟨p, l, e, s, m, args, below, meth, c, D, tc, ad, b0⟩ := E
  intro H locs la hP hS hl
  obtain ⟨hx, hb, hr, hml, hown, hts, hlk, hK, hI, hz, hSt⟩ := X
  exact lv_imul hx hb hd (k H locs la hP hS hl)
theorem Rf_iand (X : rfX Λ E y cc nL ret) {x z : Int32} (hd : decode cc pc = .ok (.iand, 1)) (hp : pc + 1 = pc2) (k : Rf Λ d E nL Q pc2 ls (.int (x &&& z) :: st) σ) : Rf Λ d E nL Q pc ls (.int z :: .int x :: st) σ := by
  subst hp
  obtain ⟨p, l, e, s, m, args, below, meth, c, D, tc, ad, b0⟩ := E
  intro H locs la hP hS hl
  obtain ⟨hx, hb, hr, hml, hown, hts, hlk, hK, hI, hz, hSt⟩ := X
  exact lv_iand hx hb hd (k H locs la hP hS hl)
theorem Rf_ior (X : rfX Λ E y cc nL ret) {x z : Int32} (hd : decode cc pc = .ok (.ior, 1)) (hp : pc + 1 = pc2) (k : Rf Λ d E nL Q pc2 ls (.int (x ||| z) :: st) σ) : Rf Λ d E nL Q pc ls (.int z :: .int x :: st) σ := by
  subst hp
  obtain ⟨p, l, e, s, m, args, below, meth, c, D, tc, ad, b0⟩ := E
  intro H locs la hP hS hl
  obtain ⟨hx, hb, hr, hml, hown, hts, hlk, hK, hI, hz, hSt⟩ := X
  exact lv_ior hx hb hd (k H locs la hP hS hl)
theorem Rf_ixor (X : rfX Λ E y cc nL ret) {x z : Int32} (hd : decode cc pc = .ok (.ixor, 1)) (hp : pc + 1 = pc2) (k : Rf Λ d E nL Q pc2 ls (.int (x ^^^ z) :: st) σ) : Rf Λ d E nL Q pc ls (.int z :: .int x :: st) σ := by
  subst hp
  obtain ⟨p, l, e, s, m, args, below, meth, c, D, tc, ad, b0⟩ := E
  intro H locs la hP hS hl
  obtain ⟨hx, hb, hr, hml, hown, hts, hlk, hK, hI, hz, hSt⟩ := X
  exact lv_ixor hx hb hd (k H locs la hP hS hl)
theorem Rf_ishl (X : rfX Λ E y cc nL ret) {x z : Int32} (hd : decode cc pc = .ok (.ishl, 1)) (hp : pc + 1 = pc2) (k : Rf Λ d E nL Q pc2 ls (.int (x <<< (z &&& 31)) :: st) σ) : Rf Λ d E nL Q pc ls (.int z :: .int x :: st) σ := by
  subst hp
  obtain ⟨p, l, e, s, m, args, below, meth, c, D, tc, ad, b0⟩ := E
  intro H locs la hP hS hl
  obtain ⟨hx, hb, hr, hml, hown, hts, hlk, hK, hI, hz, hSt⟩ := X
  exact lv_ishl hx hb hd (k H locs la hP hS hl)
theorem Rf_ishr (X : rfX Λ E y cc nL ret) {x z : Int32} (hd : decode cc pc = .ok (.ishr, 1)) (hp : pc + 1 = pc2) (k : Rf Λ d E nL Q pc2 ls (.int (x >>> (z &&& 31)) :: st) σ) : Rf Λ d E nL Q pc ls (.int z :: .int x :: st) σ := by
  subst hp
  obtain ⟨p, l, e, s, m, args, below, meth, c, D, tc, ad, b0⟩ := E
  intro H locs la hP hS hl
  obtain ⟨hx, hb, hr, hml, hown, hts, hlk, hK, hI, hz, hSt⟩ := X
  exact lv_ishr hx hb hd (k H locs la hP hS hl)
theorem Rf_idiv (X : rfX Λ E y cc nL ret) {x z : Int32} (hne : ¬ z = 0) (hd : decode cc pc = .ok (.idiv, 1)) (hp : pc + 1 = pc2) (k : Rf Λ d E nL Q pc2 ls (.int (x / z) :: st) σ) : Rf Λ d E nL Q pc ls (.int z :: .int x :: st) σ := by
  subst hp
  obtain ⟨p, l, e, s, m, args, below, meth, c, D, tc, ad, b0⟩ := E
  intro H locs la hP hS hl
  obtain ⟨hx, hb, hr, hml, hown, hts, hlk, hK, hI, hz, hSt⟩ := X
  exact lv_idiv hx hb hd hne (k H locs la hP hS hl)
theorem Rf_irem (X : rfX Λ E y cc nL ret) {x z : Int32} (hne : ¬ z = 0) (hd : decode cc pc = .ok (.irem, 1)) (hp : pc + 1 = pc2) (k : Rf Λ d E nL Q pc2 ls (.int (x - x / z * z) :: st) σ) : Rf Λ d E nL Q pc ls (.int z :: .int x :: st) σ := by
  subst hp
  obtain ⟨p, l, e, s, m, args, below, meth, c, D, tc, ad, b0⟩ := E
  intro H locs la hP hS hl
  obtain ⟨hx, hb, hr, hml, hown, hts, hlk, hK, hI, hz, hSt⟩ := X
  exact lv_irem hx hb hd hne (k H locs la hP hS hl)
theorem Rf_ineg (X : rfX Λ E y cc nL ret) {x : Int32} (hd : decode cc pc = .ok (.ineg, 1)) (hp : pc + 1 = pc2) (k : Rf Λ d E nL Q pc2 ls (.int (-x) :: st) σ) : Rf Λ d E nL Q pc ls (.int x :: st) σ := by
  subst hp
  obtain ⟨p, l, e, s, m, args, below, meth, c, D, tc, ad, b0⟩ := E
  intro H locs la hP hS hl
  obtain ⟨hx, hb, hr, hml, hown, hts, hlk, hK, hI, hz, hSt⟩ := X
  exact lv_ineg hx hb hd (k H locs la hP hS hl)
theorem Rf_iushr (X : rfX Λ E y cc nL ret) {x z : Int32} (hd : decode cc pc = .ok (.iushr, 1)) (hp : pc + 1 = pc2) (k : Rf Λ d E nL Q pc2 ls (.int (x.toUInt32 >>> (z.toUInt32 &&& Int32.toUInt32 31)).toInt32 :: st) σ) : Rf Λ d E nL Q pc ls (.int z :: .int x :: st) σ := by
  subst hp
  obtain ⟨p, l, e, s, m, args, below, meth, c, D, tc, ad, b0⟩ := E
  intro H locs la hP hS hl
  obtain ⟨hx, hb, hr, hml, hown, hts, hlk, hK, hI, hz, hSt⟩ := X
  exact lv_iushr hx hb hd rfl (k H locs la hP hS hl)
theorem Rf_ladd (X : rfX Λ E y cc nL ret) {x z : Int64} (hd : decode cc pc = .ok (.ladd, 1)) (hp : pc + 1 = pc2) (k : Rf Λ d E nL Q pc2 ls (.long (x + z) :: st) σ) : Rf Λ d E nL Q pc ls (.long z :: .long x :: st) σ := by
  subst hp
  obtain ⟨p, l, e, s, m, args, below, meth, c, D, tc, ad, b0⟩ := E
  intro H locs la hP hS hl
  obtain ⟨hx, hb, hr, hml, hown, hts, hlk, hK, hI, hz, hSt⟩ := X
  exact lv_ladd hx hb hd (k H locs la hP hS hl)
theorem Rf_lsub (X : rfX Λ E y cc nL ret) {x z : Int64} (hd : decode cc pc = .ok (.lsub, 1)) (hp : pc + 1 = pc2) (k : Rf Λ d E nL Q pc2 ls (.long (x - z) :: st) σ) : Rf Λ d E nL Q pc ls (.long z :: .long x :: st) σ := by
  subst hp
  obtain ⟨p, l, e, s, m, args, below, meth, c, D, tc, ad, b0⟩ := E
  intro H locs la hP hS hl
  obtain ⟨hx, hb, hr, hml, hown, hts, hlk, hK, hI, hz, hSt⟩ := X
  exact lv_lsub hx hb hd (k H locs la hP hS hl)
theorem Rf_lmul (X : rfX Λ E y cc nL ret) {x z : Int64} (hd : decode cc pc = .ok (.lmul, 1)) (hp : pc + 1 = pc2) (k : Rf Λ d E nL Q pc2 ls (.long (x * z) :: st) σ) : Rf Λ d E nL Q pc ls (.long z :: .long x :: st) σ := by
  subst hp
  obtain ⟨p, l, e, s, m, args, below, meth, c, D, tc, ad, b0⟩ := E
  intro H locs la hP hS hl
  obtain ⟨hx, hb, hr, hml, hown, hts, hlk, hK, hI, hz, hSt⟩ := X
  exact lv_lmul hx hb hd (k H locs la hP hS hl)
theorem Rf_land (X : rfX Λ E y cc nL ret) {x z : Int64} (hd : decode cc pc = .ok (.land, 1)) (hp : pc + 1 = pc2) (k : Rf Λ d E nL Q pc2 ls (.long (x &&& z) :: st) σ) : Rf Λ d E nL Q pc ls (.long z :: .long x :: st) σ := by
  subst hp
  obtain ⟨p, l, e, s, m, args, below, meth, c, D, tc, ad, b0⟩ := E
  intro H locs la hP hS hl
  obtain ⟨hx, hb, hr, hml, hown, hts, hlk, hK, hI, hz, hSt⟩ := X
  exact lv_land hx hb hd (k H locs la hP hS hl)
theorem Rf_lor (X : rfX Λ E y cc nL ret) {x z : Int64} (hd : decode cc pc = .ok (.lor, 1)) (hp : pc + 1 = pc2) (k : Rf Λ d E nL Q pc2 ls (.long (x ||| z) :: st) σ) : Rf Λ d E nL Q pc ls (.long z :: .long x :: st) σ := by
  subst hp
  obtain ⟨p, l, e, s, m, args, below, meth, c, D, tc, ad, b0⟩ := E
  intro H locs la hP hS hl
  obtain ⟨hx, hb, hr, hml, hown, hts, hlk, hK, hI, hz, hSt⟩ := X
  exact lv_lor hx hb hd (k H locs la hP hS hl)
theorem Rf_lshl (X : rfX Λ E y cc nL ret) {x : Int64} {z : Int32} (hd : decode cc pc = .ok (.lshl, 1)) (hp : pc + 1 = pc2) (k : Rf Λ d E nL Q pc2 ls (.long (x <<< (z.toInt64 &&& 63)) :: st) σ) : Rf Λ d E nL Q pc ls (.int z :: .long x :: st) σ := by
  subst hp
  obtain ⟨p, l, e, s, m, args, below, meth, c, D, tc, ad, b0⟩ := E
  intro H locs la hP hS hl
  obtain ⟨hx, hb, hr, hml, hown, hts, hlk, hK, hI, hz, hSt⟩ := X
  exact lv_lshl hx hb hd rfl (k H locs la hP hS hl)
theorem Rf_lshr (X : rfX Λ E y cc nL ret) {x : Int64} {z : Int32} (hd : decode cc pc = .ok (.lshr, 1)) (hp : pc + 1 = pc2) (k : Rf Λ d E nL Q pc2 ls (.long (x >>> (z.toInt64 &&& 63)) :: st) σ) : Rf Λ d E nL Q pc ls (.int z :: .long x :: st) σ := by
  subst hp
  obtain ⟨p, l, e, s, m, args, below, meth, c, D, tc, ad, b0⟩ := E
  intro H locs la hP hS hl
  obtain ⟨hx, hb, hr, hml, hown, hts, hlk, hK, hI, hz, hSt⟩ := X
  exact lv_lshr hx hb hd rfl (k H locs la hP hS hl)
theorem Rf_lcmp (X : rfX Λ E y cc nL ret) {x z : Int64} (hd : decode cc pc = .ok (.lcmp, 1)) (hp : pc + 1 = pc2) (k : Rf Λ d E nL Q pc2 ls (.int (lg_cmp x z) :: st) σ) : Rf Λ d E nL Q pc ls (.long z :: .long x :: st) σ := by
  subst hp
  obtain ⟨p, l, e, s, m, args, below, meth, c, D, tc, ad, b0⟩ := E
  intro H locs la hP hS hl
  obtain ⟨hx, hb, hr, hml, hown, hts, hlk, hK, hI, hz, hSt⟩ := X
  exact W.lcmp hx hb hd (k H locs la hP hS hl)
theorem Rf_i2l (X : rfX Λ E y cc nL ret) {x : Int32} (hd : decode cc pc = .ok (.i2l, 1)) (hp : pc + 1 = pc2) (k : Rf Λ d E nL Q pc2 ls (.long x.toInt64 :: st) σ) : Rf Λ d E nL Q pc ls (.int x :: st) σ := by
  subst hp
  obtain ⟨p, l, e, s, m, args, below, meth, c, D, tc, ad, b0⟩ := E
  intro H locs la hP hS hl
  obtain ⟨hx, hb, hr, hml, hown, hts, hlk, hK, hI, hz, hSt⟩ := X
  exact lv_i2l hx hb hd rfl (k H locs la hP hS hl)
theorem Rf_l2i (X : rfX Λ E y cc nL ret) {x : Int64} (hd : decode cc pc = .ok (.l2i, 1)) (hp : pc + 1 = pc2) (k : Rf Λ d E nL Q pc2 ls (.int x.toInt32 :: st) σ) : Rf Λ d E nL Q pc ls (.long x :: st) σ := by
  subst hp
  obtain ⟨p, l, e, s, m, args, below, meth, c, D, tc, ad, b0⟩ := E
  intro H locs la hP hS hl
  obtain ⟨hx, hb, hr, hml, hown, hts, hlk, hK, hI, hz, hSt⟩ := X
  exact lv_l2i hx hb hd rfl (k H locs la hP hS hl)
theorem Rf_i2b (X : rfX Λ E y cc nL ret) {x : Int32} (hd : decode cc pc = .ok (.i2b, 1)) (hp : pc + 1 = pc2) (k : Rf Λ d E nL Q pc2 ls (.int x.toInt8.toInt32 :: st) σ) : Rf Λ d E nL Q pc ls (.int x :: st) σ := by
  subst hp
  obtain ⟨p, l, e, s, m, args, below, meth, c, D, tc, ad, b0⟩ := E
  intro H locs la hP hS hl
  obtain ⟨hx, hb, hr, hml, hown, hts, hlk, hK, hI, hz, hSt⟩ := X
  exact lv_i2b hx hb hd rfl (k H locs la hP hS hl)
theorem Rf_i2s (X : rfX Λ E y cc nL ret) {x : Int32} (hd : decode cc pc = .ok (.i2s, 1)) (hp : pc + 1 = pc2) (k : Rf Λ d E nL Q pc2 ls (.int x.toInt16.toInt32 :: st) σ) : Rf Λ d E nL Q pc ls (.int x :: st) σ := by
  subst hp
  obtain ⟨p, l, e, s, m, args, below, meth, c, D, tc, ad, b0⟩ := E
  intro H locs la hP hS hl
  obtain ⟨hx, hb, hr, hml, hown, hts, hlk, hK, hI, hz, hSt⟩ := X
  exact lv_i2s hx hb hd rfl (k H locs la hP hS hl)
theorem Rf_dup (X : rfX Λ E y cc nL ret) {a : Value} (ha : a.category = 1) (hd : decode cc pc = .ok (.dup, 1)) (hp : pc + 1 = pc2) (k : Rf Λ d E nL Q pc2 ls (a :: a :: st) σ) : Rf Λ d E nL Q pc ls (a :: st) σ := by
  subst hp
  obtain ⟨p, l, e, s, m, args, below, meth, c, D, tc, ad, b0⟩ := E
  intro H locs la hP hS hl
  obtain ⟨hx, hb, hr, hml, hown, hts, hlk, hK, hI, hz, hSt⟩ := X
  exact lv_dup hx hb hd ((rfV_cat ad _).trans ha) (k H locs la hP hS hl)
theorem Rf_pop (X : rfX Λ E y cc nL ret) {a : Value} (ha : a.category = 1) (hd : decode cc pc = .ok (.pop, 1)) (hp : pc + 1 = pc2) (k : Rf Λ d E nL Q pc2 ls st σ) : Rf Λ d E nL Q pc ls (a :: st) σ := by
  subst hp
  obtain ⟨p, l, e, s, m, args, below, meth, c, D, tc, ad, b0⟩ := E
  intro H locs la hP hS hl
  obtain ⟨hx, hb, hr, hml, hown, hts, hlk, hK, hI, hz, hSt⟩ := X
  exact lv_pop hx hb hd ((rfV_cat ad _).trans ha) (k H locs la hP hS hl)
theorem Rf_dup_x1 (X : rfX Λ E y cc nL ret) {a b : Value} (ha : a.category = 1) (hb2 : b.category = 1) (hd : decode cc pc = .ok (.dup_x1, 1)) (hp : pc + 1 = pc2) (k : Rf Λ d E nL Q pc2 ls (a :: b :: a :: st) σ) : Rf Λ d E nL Q pc ls (a :: b :: st) σ := by
  subst hp
  obtain ⟨p, l, e, s, m, args, below, meth, c, D, tc, ad, b0⟩ := E
  intro H locs la hP hS hl
  obtain ⟨hx, hb, hr, hml, hown, hts, hlk, hK, hI, hz, hSt⟩ := X
  exact lv_dup_x1 hx hb hd ((rfV_cat ad _).trans ha) ((rfV_cat ad _).trans hb2) (k H locs la hP hS hl)
theorem Rf_dup2 (X : rfX Λ E y cc nL ret) {a b : Value} (ha : a.category = 1) (hb2 : b.category = 1) (hd : decode cc pc = .ok (.dup2, 1)) (hp : pc + 1 = pc2) (k : Rf Λ d E nL Q pc2 ls (a :: b :: a :: b :: st) σ) : Rf Λ d E nL Q pc ls (a :: b :: st) σ := by
  subst hp
  obtain ⟨p, l, e, s, m, args, below, meth, c, D, tc, ad, b0⟩ := E
  intro H locs la hP hS hl
  obtain ⟨hx, hb, hr, hml, hown, hts, hlk, hK, hI, hz, hSt⟩ := X
  exact lv_dup2_11 hx hb hd ((rfV_cat ad _).trans ha) ((rfV_cat ad _).trans hb2) (k H locs la hP hS hl)
theorem Rf_icmp_eq (X : rfX Λ E y cc nL ret) {x z : Int32} {off : Int} {tgt : Nat} (hd : decode cc pc = .ok (.if_icmp .eq off, 3)) (ht : (pc : Int) + off = (tgt : Int)) (hp : pc + 3 = pc2) (kt : x = z → Rf Λ d E nL Q tgt ls st σ) (kf : ¬ (x = z) → Rf Λ d E nL Q pc2 ls st σ) : Rf Λ d E nL Q pc ls (.int z :: .int x :: st) σ := by
  subst hp
  obtain ⟨p, l, e, s, m, args, below, meth, c, D, tc, ad, b0⟩ := E
  intro H locs la hP hS hl
  obtain ⟨hx, hb, hr, hml, hown, hts, hlk, hK, hI, hz, hSt⟩ := X
  exact lv_icmp_eq hx hb hd ht (fun q => kt q H locs la hP hS hl) (fun q => kf q H locs la hP hS hl)
theorem Rf_if_eq (X : rfX Λ E y cc nL ret) {x : Int32} {off : Int} {tgt : Nat} (hd : decode cc pc = .ok (.ifCond .eq off, 3)) (ht : (pc : Int) + off = (tgt : Int)) (hp : pc + 3 = pc2) (kt : x = 0 → Rf Λ d E nL Q tgt ls st σ) (kf : ¬ (x = 0) → Rf Λ d E nL Q pc2 ls st σ) : Rf Λ d E nL Q pc ls (.int x :: st) σ := by
  subst hp
  obtain ⟨p, l, e, s, m, args, below, meth, c, D, tc, ad, b0⟩ := E
  intro H locs la hP hS hl
  obtain ⟨hx, hb, hr, hml, hown, hts, hlk, hK, hI, hz, hSt⟩ := X
  exact lv_if_eq hx hb hd ht (fun q => kt q H locs la hP hS hl) (fun q => kf q H locs la hP hS hl)
theorem Rf_icmp_ne (X : rfX Λ E y cc nL ret) {x z : Int32} {off : Int} {tgt : Nat} (hd : decode cc pc = .ok (.if_icmp .ne off, 3)) (ht : (pc : Int) + off = (tgt : Int)) (hp : pc + 3 = pc2) (kt : ¬ x = z → Rf Λ d E nL Q tgt ls st σ) (kf : x = z → Rf Λ d E nL Q pc2 ls st σ) : Rf Λ d E nL Q pc ls (.int z :: .int x :: st) σ := by
  subst hp
  obtain ⟨p, l, e, s, m, args, below, meth, c, D, tc, ad, b0⟩ := E
  intro H locs la hP hS hl
  obtain ⟨hx, hb, hr, hml, hown, hts, hlk, hK, hI, hz, hSt⟩ := X
  exact lv_icmp_ne hx hb hd ht (fun q => kt q H locs la hP hS hl) (fun q => kf q H locs la hP hS hl)
theorem Rf_if_ne (X : rfX Λ E y cc nL ret) {x : Int32} {off : Int} {tgt : Nat} (hd : decode cc pc = .ok (.ifCond .ne off, 3)) (ht : (pc : Int) + off = (tgt : Int)) (hp : pc + 3 = pc2) (kt : ¬ x = 0 → Rf Λ d E nL Q tgt ls st σ) (kf : x = 0 → Rf Λ d E nL Q pc2 ls st σ) : Rf Λ d E nL Q pc ls (.int x :: st) σ := by
  subst hp
  obtain ⟨p, l, e, s, m, args, below, meth, c, D, tc, ad, b0⟩ := E
  intro H locs la hP hS hl
  obtain ⟨hx, hb, hr, hml, hown, hts, hlk, hK, hI, hz, hSt⟩ := X
  exact lv_if_ne hx hb hd ht (fun q => kt q H locs la hP hS hl) (fun q => kf q H locs la hP hS hl)
theorem Rf_icmp_lt (X : rfX Λ E y cc nL ret) {x z : Int32} {off : Int} {tgt : Nat} (hd : decode cc pc = .ok (.if_icmp .lt off, 3)) (ht : (pc : Int) + off = (tgt : Int)) (hp : pc + 3 = pc2) (kt : x < z → Rf Λ d E nL Q tgt ls st σ) (kf : ¬ (x < z) → Rf Λ d E nL Q pc2 ls st σ) : Rf Λ d E nL Q pc ls (.int z :: .int x :: st) σ := by
  subst hp
  obtain ⟨p, l, e, s, m, args, below, meth, c, D, tc, ad, b0⟩ := E
  intro H locs la hP hS hl
  obtain ⟨hx, hb, hr, hml, hown, hts, hlk, hK, hI, hz, hSt⟩ := X
  exact lv_icmp_lt hx hb hd ht (fun q => kt q H locs la hP hS hl) (fun q => kf q H locs la hP hS hl)
theorem Rf_if_lt (X : rfX Λ E y cc nL ret) {x : Int32} {off : Int} {tgt : Nat} (hd : decode cc pc = .ok (.ifCond .lt off, 3)) (ht : (pc : Int) + off = (tgt : Int)) (hp : pc + 3 = pc2) (kt : x < 0 → Rf Λ d E nL Q tgt ls st σ) (kf : ¬ (x < 0) → Rf Λ d E nL Q pc2 ls st σ) : Rf Λ d E nL Q pc ls (.int x :: st) σ := by
  subst hp
  obtain ⟨p, l, e, s, m, args, below, meth, c, D, tc, ad, b0⟩ := E
  intro H locs la hP hS hl
  obtain ⟨hx, hb, hr, hml, hown, hts, hlk, hK, hI, hz, hSt⟩ := X
  exact lv_if_lt hx hb hd ht (fun q => kt q H locs la hP hS hl) (fun q => kf q H locs la hP hS hl)
theorem Rf_icmp_ge (X : rfX Λ E y cc nL ret) {x z : Int32} {off : Int} {tgt : Nat} (hd : decode cc pc = .ok (.if_icmp .ge off, 3)) (ht : (pc : Int) + off = (tgt : Int)) (hp : pc + 3 = pc2) (kt : z ≤ x → Rf Λ d E nL Q tgt ls st σ) (kf : ¬ (z ≤ x) → Rf Λ d E nL Q pc2 ls st σ) : Rf Λ d E nL Q pc ls (.int z :: .int x :: st) σ := by
  subst hp
  obtain ⟨p, l, e, s, m, args, below, meth, c, D, tc, ad, b0⟩ := E
  intro H locs la hP hS hl
  obtain ⟨hx, hb, hr, hml, hown, hts, hlk, hK, hI, hz, hSt⟩ := X
  exact lv_icmp_ge hx hb hd ht (fun q => kt q H locs la hP hS hl) (fun q => kf q H locs la hP hS hl)
theorem Rf_if_ge (X : rfX Λ E y cc nL ret) {x : Int32} {off : Int} {tgt : Nat} (hd : decode cc pc = .ok (.ifCond .ge off, 3)) (ht : (pc : Int) + off = (tgt : Int)) (hp : pc + 3 = pc2) (kt : 0 ≤ x → Rf Λ d E nL Q tgt ls st σ) (kf : ¬ (0 ≤ x) → Rf Λ d E nL Q pc2 ls st σ) : Rf Λ d E nL Q pc ls (.int x :: st) σ := by
  subst hp
  obtain ⟨p, l, e, s, m, args, below, meth, c, D, tc, ad, b0⟩ := E
  intro H locs la hP hS hl
  obtain ⟨hx, hb, hr, hml, hown, hts, hlk, hK, hI, hz, hSt⟩ := X
  exact lv_if_ge hx hb hd ht (fun q => kt q H locs la hP hS hl) (fun q => kf q H locs la hP hS hl)
theorem Rf_icmp_gt (X : rfX Λ E y cc nL ret) {x z : Int32} {off : Int} {tgt : Nat} (hd : decode cc pc = .ok (.if_icmp .gt off, 3)) (ht : (pc : Int) + off = (tgt : Int)) (hp : pc + 3 = pc2) (kt : z < x → Rf Λ d E nL Q tgt ls st σ) (kf : ¬ (z < x) → Rf Λ d E nL Q pc2 ls st σ) : Rf Λ d E nL Q pc ls (.int z :: .int x :: st) σ := by
  subst hp
  obtain ⟨p, l, e, s, m, args, below, meth, c, D, tc, ad, b0⟩ := E
  intro H locs la hP hS hl
  obtain ⟨hx, hb, hr, hml, hown, hts, hlk, hK, hI, hz, hSt⟩ := X
  exact lv_icmp_gt hx hb hd ht (fun q => kt q H locs la hP hS hl) (fun q => kf q H locs la hP hS hl)
theorem Rf_if_gt (X : rfX Λ E y cc nL ret) {x : Int32} {off : Int} {tgt : Nat} (hd : decode cc pc = .ok (.ifCond .gt off, 3)) (ht : (pc : Int) + off = (tgt : Int)) (hp : pc + 3 = pc2) (kt : 0 < x → Rf Λ d E nL Q tgt ls st σ) (kf : ¬ (0 < x) → Rf Λ d E nL Q pc2 ls st σ) : Rf Λ d E nL Q pc ls (.int x :: st) σ := by
  subst hp
  obtain ⟨p, l, e, s, m, args, below, meth, c, D, tc, ad, b0⟩ := E
  intro H locs la hP hS hl
  obtain ⟨hx, hb, hr, hml, hown, hts, hlk, hK, hI, hz, hSt⟩ := X
  exact lv_if_gt hx hb hd ht (fun q => kt q H locs la hP hS hl) (fun q => kf q H locs la hP hS hl)
theorem Rf_icmp_le (X : rfX Λ E y cc nL ret) {x z : Int32} {off : Int} {tgt : Nat} (hd : decode cc pc = .ok (.if_icmp .le off, 3)) (ht : (pc : Int) + off = (tgt : Int)) (hp : pc + 3 = pc2) (kt : x ≤ z → Rf Λ d E nL Q tgt ls st σ) (kf : ¬ (x ≤ z) → Rf Λ d E nL Q pc2 ls st σ) : Rf Λ d E nL Q pc ls (.int z :: .int x :: st) σ := by
  subst hp
  obtain ⟨p, l, e, s, m, args, below, meth, c, D, tc, ad, b0⟩ := E
  intro H locs la hP hS hl
  obtain ⟨hx, hb, hr, hml, hown, hts, hlk, hK, hI, hz, hSt⟩ := X
  exact lv_icmp_le hx hb hd ht (fun q => kt q H locs la hP hS hl) (fun q => kf q H locs la hP hS hl)
theorem Rf_if_le (X : rfX Λ E y cc nL ret) {x : Int32} {off : Int} {tgt : Nat} (hd : decode cc pc = .ok (.ifCond .le off, 3)) (ht : (pc : Int) + off = (tgt : Int)) (hp : pc + 3 = pc2) (kt : x ≤ 0 → Rf Λ d E nL Q tgt ls st σ) (kf : ¬ (x ≤ 0) → Rf Λ d E nL Q pc2 ls st σ) : Rf Λ d E nL Q pc ls (.int x :: st) σ := by
  subst hp
  obtain ⟨p, l, e, s, m, args, below, meth, c, D, tc, ad, b0⟩ := E
  intro H locs la hP hS hl
  obtain ⟨hx, hb, hr, hml, hown, hts, hlk, hK, hI, hz, hSt⟩ := X
  exact lv_if_le hx hb hd ht (fun q => kt q H locs la hP hS hl) (fun q => kf q H locs la hP hS hl)
theorem Rf_goto (X : rfX Λ E y cc nL ret) {off : Int} {tgt : Nat} (hd : decode cc pc = .ok (.goto off, 3)) (ht : (pc : Int) + off = (tgt : Int)) (k : Rf Λ d E nL Q tgt ls st σ) : Rf Λ d E nL Q pc ls st σ := by
  obtain ⟨p, l, e, s, m, args, below, meth, c, D, tc, ad, b0⟩ := E
  intro H locs la hP hS hl
  exact lv_goto X.1 X.2.1 hd ht (k H locs la hP hS hl)
theorem Rf_sub (is : List Nat) (h : lv_pick ls is = ls2) (k : Rf Λ d E nL Q pc ls2 st σ) : Rf Λ d E nL Q pc ls st σ := by
  obtain ⟨p, l, e, s, m, args, below, meth, c, D, tc, ad, b0⟩ := E
  intro H locs la hP hS hl
  refine k H locs la hP hS (lv_sub hl is ?_)
  rw [← h]
  unfold lv_pick
  rw [List.map_filterMap]
  congr 1
  funext q
  simp [List.getElem?_map]
end RfRules
end
section

/-- what is known of class number ci -/
def rfCl (ci : Nat) (C : String) (T : u_T) (N : Nat) (ty : Nat → FieldType) : Prop := vwCl[ci]? = some (C, T, N) ∧ rfN ci = N ∧ (∀ w ∈ u_ws C T N, w ∈ rfG) ∧ (∀ k, k < N → parseFieldDescriptor (T k).2.2.1 = some (ty k)) ∧ (∀ a, a < N → ∀ b, b < N → a ≠ b → (T a).2.1 ≠ (T b).2.1)
theorem rf_ws {C : String} {T : u_T} {N : Nat} (h : ∀ w ∈ u_ws C T N, w ∈ lw_tbl) : ∀ w ∈ u_ws C T N, w ∈ rfG := by
  intro w hw
  refine rf_g (h w hw) ?_
  obtain ⟨k, -, rfl⟩ := List.mem_map.mp hw
  unfold u_lay
  split <;> rfl
section RfHeap
variable {Λ : rfL} {d : Nat} {E : rfE} {y : MethodName} {cc : ByteArray} {nL : Nat} {ret : Option FieldType} {Q : Option Value → rfS → Prop} {pc pc2 : Nat} {ls ls2 : List (Nat × Value)} {st : List Value} {σ : rfS}
theorem rfCell_obj {tc : Nat → ClassId} {ad : Nat → Nat} {k ci : Nat} (h : Λ.2.1 k = ci + 4) : rfCell Λ tc ad σ k = .inr (ci, (List.range (rfN ci)).map (fun j => rfV ad (rfFl Λ σ ci k j))) := by
  unfold rfCell
  rw [h]
theorem rfCell_i {tc : Nat → ClassId} {ad : Nat → Nat} {k : Nat} (h : Λ.2.1 k = 0) : rfCell Λ tc ad σ k = .inl (tc 0, Λ.2.2.1 k, .inl (σ.2.1 k)) := by
  unfold rfCell
  rw [h]
theorem rfCell_l {tc : Nat → ClassId} {ad : Nat → Nat} {k : Nat} (h : Λ.2.1 k = 1) : rfCell Λ tc ad σ k = .inl (tc 1, Λ.2.2.1 k, .inr (.inl (σ.2.2 k))) := by
  unfold rfCell
  rw [h]
theorem rfCell_2 {tc : Nat → ClassId} {ad : Nat → Nat} {k : Nat} (h : Λ.2.1 k = 2) : rfCell Λ tc ad σ k = .inl (tc 2, Λ.2.2.1 k, .inr (.inr (.inr (.inr (fun j => some (ad (Λ.2.2.2.2 k j))))))) := by
  unfold rfCell
  rw [h]
theorem rfCell_3 {tc : Nat → ClassId} {ad : Nat → Nat} {k : Nat} (h : Λ.2.1 k = 3) : rfCell Λ tc ad σ k = .inl (tc 3, Λ.2.2.1 k, .inr (.inr (.inr (.inr (fun j => some (ad (Λ.2.2.2.2 k j))))))) := by
  unfold rfCell
  rw [h]
/-- cells that a change of other places leaves as they are -/
theorem rfCell_eq {tc : Nat → ClassId} {ad : Nat → Nat} {σ2 : rfS} {j : Nat} (h1 : ∀ b, σ2.1 j b = σ.1 j b) (h2 : σ2.2.1 j = σ.2.1 j) (h3 : σ2.2.2 j = σ.2.2 j) : rfCell Λ tc ad σ2 j = rfCell Λ tc ad σ j := by
  unfold rfCell
  rw [h2, h3]
  split <;> try rfl
  refine congrArg Sum.inr (congrArg _ ?_)
  refine List.map_congr_left (fun a _ => ?_)
  unfold rfFl
  rw [h1]

theorem Rf_get (X : rfX Λ E y cc nL ret) {ci k j ix N : Nat} {C : String} {T : u_T} {ty : Nat → FieldType} (kc : rfCl ci C T N ty) (hk : k < Λ.1) (hkd : Λ.2.1 k = ci + 4) (hj : j < N) (hw : Cond.fieldLink y.cls ix (T j).1 (T j).2.1 (T j).2.2.1 ∈ rfG) {v : Value} (hv : rfFl Λ σ ci k j = v) (hd : decode cc pc = .ok (.getfield ix, 3)) (hp : pc + 3 = pc2) (kk : Rf Λ d E nL Q pc2 ls (v :: st) σ) : Rf Λ d E nL Q pc ls (.ref k :: st) σ := by
  subst hp
  obtain ⟨p, l, e, s, m, args, below, meth, c, D, tc, ad, b0⟩ := E
  intro H locs la hP hS hl
  obtain ⟨hx, hb, hr, hml, hown, hts, hlk, hK, hI, hz, hSt⟩ := X
  refine va_get (D := D) (cl := vwCl) (tys := rfT tc) hx hb hts kc.2.2.1 hown hK hP k (by rw [rfW_at hk, rfCell_obj hkd]) kc.1 j hj (hts _ hw) (fun _ h9 => h9) (v := rfV ad v) ?_ hd (kk H locs la hP hS hl)
  rw [kc.2.1, List.getElem?_map, List.getElem?_range hj, Option.map_some, hv]
theorem Rf_put (X : rfX Λ E y cc nL ret) {ci k j ix N : Nat} {C : String} {T : u_T} {ty : Nat → FieldType} (kc : rfCl ci C T N ty) (hk : k < Λ.1) (hkd : Λ.2.1 k = ci + 4) (hj : j < N) (hfin : (T j).2.2.2 = false) (hw : Cond.fieldLink y.cls ix (T j).1 (T j).2.1 (T j).2.2.1 ∈ rfG) {v : Int32} (hr : Λ.2.2.2.1 ci k j = none) (hn : narrow (ty j) (.int v) = .int v) (hf : fits (ty j) (.int v) = true) (hd : decode cc pc = .ok (.putfield ix, 3)) (hp : pc + 3 = pc2) (kk : Rf Λ d E nL Q pc2 ls st (sI σ k j v)) : Rf Λ d E nL Q pc ls (.int v :: .ref k :: st) σ := by
  subst hp
  obtain ⟨p, l, e, s, m, args, below, meth, c, D, tc, ad, b0⟩ := E
  intro H locs la hP hS hl
  obtain ⟨hx, hb, hrt, hml, hown, hts, hlk, hK, hI, hz, hSt⟩ := X
  refine va_put (D := D) (cl := vwCl) (tys := rfT tc) hx hb hts kc.2.2.1 ty kc.2.2.2.1 kc.2.2.2.2 hown hK hP (rfW_D (b0 := b0) σ hI) hS k (by rw [rfW_at hk, rfCell_obj hkd]) kc.1 j hj (hts _ hw) (fun _ h9 => h9) hfin (ty := ty j) (kc.2.2.2.1 j hj) hn hf (by simp [kc.2.1, hj]) hd (fun H1 locs1 hP1 _ hS1 => kk H1 locs1 la ?_ hS1 hl)
  have e : (rfW Λ tc ad σ).set k (ad k, .inr (ci, ((List.range (rfN ci)).map (fun j => rfV ad (rfFl Λ σ ci k j))).set j (.int v))) = rfW Λ tc ad (sI σ k j v) := by
    refine rfW_set ?_ (fun i hi => ?_)
    · rw [rfCell_obj hkd]
      refine congrArg Sum.inr (congrArg _ ?_)
      apply List.ext_getElem?
      intro i
      rw [List.getElem?_set]
      by_cases hji : j = i
      · subst hji
        rw [if_pos rfl, List.getElem?_map]
        have hjr : j < rfN ci := by rw [kc.2.1]; exact hj
        rw [List.getElem?_range hjr]
        simp only [List.length_map, List.length_range, hjr, if_true, Option.map_some]
        unfold rfFl
        rw [hr]
        simp [sI, rfV]
      · rw [if_neg hji, List.getElem?_map, List.getElem?_map]
        by_cases hin : i < rfN ci
        · rw [List.getElem?_range hin]
          simp only [Option.map_some]
          unfold rfFl
          simp [sI, Ne.symm hji]
        · rw [List.getElem?_eq_none (by simp; omega)]
          rfl
    · exact rfCell_eq (fun b => by simp [sI, hi]) rfl rfl
  rw [← e]
  exact hP1
theorem Rf_iaload (X : rfX Λ E y cc nL ret) {k : Nat} {i : Int32} (hk : k < Λ.1) (hkd : Λ.2.1 k = 0) {N : Nat} (hN : Λ.2.2.1 k = N) (hin : vp_in i N) (hd : decode cc pc = .ok (.iaload, 1)) (hp : pc + 1 = pc2) (kk : Rf Λ d E nL Q pc2 ls (.int (gF σ k i.toNatClampNeg) :: st) σ) : Rf Λ d E nL Q pc ls (.int i :: .ref k :: st) σ := by
  subst hp
  subst hN
  obtain ⟨p, l, e, s, m, args, below, meth, c, D, tc, ad, b0⟩ := E
  intro H locs la hP hS hl
  obtain ⟨hx, hb, hr, hml, hown, hts, hlk, hK, hI, hz, hSt⟩ := X
  exact va_iald (D := D) (cl := vwCl) (tys := rfT tc) hx hb hK hP k 0 (f := σ.2.1 k) (by rw [rfW_at hk, rfCell_i hkd]) rfl hin hd (kk H locs la hP hS hl)
theorem Rf_laload (X : rfX Λ E y cc nL ret) {k : Nat} {i : Int32} (hk : k < Λ.1) (hkd : Λ.2.1 k = 1) {N : Nat} (hN : Λ.2.2.1 k = N) (hin : vp_in i N) (hd : decode cc pc = .ok (.laload, 1)) (hp : pc + 1 = pc2) (kk : Rf Λ d E nL Q pc2 ls (.long (gL σ k i.toNatClampNeg) :: st) σ) : Rf Λ d E nL Q pc ls (.int i :: .ref k :: st) σ := by
  subst hp
  subst hN
  obtain ⟨p, l, e, s, m, args, below, meth, c, D, tc, ad, b0⟩ := E
  intro H locs la hP hS hl
  obtain ⟨hx, hb, hr, hml, hown, hts, hlk, hK, hI, hz, hSt⟩ := X
  exact va_lald (D := D) (cl := vwCl) (tys := rfT tc) hx hb hK hP k 1 (f := σ.2.2 k) (by rw [rfW_at hk, rfCell_l hkd]) rfl hin hd (kk H locs la hP hS hl)
theorem Rf_aaload2 (X : rfX Λ E y cc nL ret) {k : Nat} {i : Int32} (hk : k < Λ.1) (hkd : Λ.2.1 k = 2) {N : Nat} (hN : Λ.2.2.1 k = N) (hin : vp_in i N) (hd : decode cc pc = .ok (.aaload, 1)) (hp : pc + 1 = pc2) (kk : Rf Λ d E nL Q pc2 ls (.ref (Λ.2.2.2.2 k i.toNatClampNeg) :: st) σ) : Rf Λ d E nL Q pc ls (.int i :: .ref k :: st) σ := by
  subst hp
  subst hN
  obtain ⟨p, l, e, s, m, args, below, meth, c, D, tc, ad, b0⟩ := E
  intro H locs la hP hS hl
  obtain ⟨hx, hb, hr, hml, hown, hts, hlk, hK, hI, hz, hSt⟩ := X
  exact va_aldq (D := D) (cl := vwCl) (tys := rfT tc) hx hb hK hP k 2 (f := fun j => some (ad (Λ.2.2.2.2 k j))) (by rw [rfW_at hk, rfCell_2 hkd]) rfl hin hd (kk H locs la hP hS hl)
theorem Rf_aaload3 (X : rfX Λ E y cc nL ret) {k : Nat} {i : Int32} (hk : k < Λ.1) (hkd : Λ.2.1 k = 3) {N : Nat} (hN : Λ.2.2.1 k = N) (hin : vp_in i N) (hd : decode cc pc = .ok (.aaload, 1)) (hp : pc + 1 = pc2) (kk : Rf Λ d E nL Q pc2 ls (.ref (Λ.2.2.2.2 k i.toNatClampNeg) :: st) σ) : Rf Λ d E nL Q pc ls (.int i :: .ref k :: st) σ := by
  subst hp
  subst hN
  obtain ⟨p, l, e, s, m, args, below, meth, c, D, tc, ad, b0⟩ := E
  intro H locs la hP hS hl
  obtain ⟨hx, hb, hr, hml, hown, hts, hlk, hK, hI, hz, hSt⟩ := X
  exact va_aldq (D := D) (cl := vwCl) (tys := rfT tc) hx hb hK hP k 3 (f := fun j => some (ad (Λ.2.2.2.2 k j))) (by rw [rfW_at hk, rfCell_3 hkd]) rfl hin hd (kk H locs la hP hS hl)
theorem Rf_iastore (X : rfX Λ E y cc nL ret) {k : Nat} {i : Int32} {v : Int32} (hk : k < Λ.1) (hkd : Λ.2.1 k = 0) {N : Nat} (hN : Λ.2.2.1 k = N) (hin : vp_in i N) (hd : decode cc pc = .ok (.iastore, 1)) (hp : pc + 1 = pc2) (kk : Rf Λ d E nL Q pc2 ls st (sF σ k i.toNatClampNeg v)) : Rf Λ d E nL Q pc ls (.int v :: .int i :: .ref k :: st) σ := by
  subst hp
  subst hN
  obtain ⟨p, l, e, s, m, args, below, meth, c, D, tc, ad, b0⟩ := E
  intro H locs la hP hS hl
  obtain ⟨hx, hb, hr, hml, hown, hts, hlk, hK, hI, hz, hSt⟩ := X
  refine va_iast (D := D) (cl := vwCl) (tys := rfT tc) hx hb hK hP (rfW_D (b0 := b0) σ hI) hS k 0 (by rw [rfW_at hk, rfCell_i hkd]) rfl hin hd (fun H1 locs1 hP1 _ hS1 => kk H1 locs1 la ?_ hS1 hl)
  have e := rfW_set (Λ := Λ) (tc := tc) (ad := ad) (σ := σ) (σ' := sF σ k i.toNatClampNeg v) (k := k) rfl (fun j hj => rfCell_eq (fun b => rfl) (by simp [sF, hj]) (by simp [sF, hj]))
  rw [rfCell_i hkd] at e
  rw [← e]
  have h2 := hP1
  simpa [sF] using h2
theorem Rf_lastore (X : rfX Λ E y cc nL ret) {k : Nat} {i : Int32} {v : Int64} (hk : k < Λ.1) (hkd : Λ.2.1 k = 1) {N : Nat} (hN : Λ.2.2.1 k = N) (hin : vp_in i N) (hd : decode cc pc = .ok (.lastore, 1)) (hp : pc + 1 = pc2) (kk : Rf Λ d E nL Q pc2 ls st (sL σ k i.toNatClampNeg v)) : Rf Λ d E nL Q pc ls (.long v :: .int i :: .ref k :: st) σ := by
  subst hp
  subst hN
  obtain ⟨p, l, e, s, m, args, below, meth, c, D, tc, ad, b0⟩ := E
  intro H locs la hP hS hl
  obtain ⟨hx, hb, hr, hml, hown, hts, hlk, hK, hI, hz, hSt⟩ := X
  refine va_last (D := D) (cl := vwCl) (tys := rfT tc) hx hb hK hP (rfW_D (b0 := b0) σ hI) hS k 1 (by rw [rfW_at hk, rfCell_l hkd]) rfl hin hd (fun H1 locs1 hP1 _ hS1 => kk H1 locs1 la ?_ hS1 hl)
  have e := rfW_set (Λ := Λ) (tc := tc) (ad := ad) (σ := σ) (σ' := sL σ k i.toNatClampNeg v) (k := k) rfl (fun j hj => rfCell_eq (fun b => rfl) (by simp [sL, hj]) (by simp [sL, hj]))
  rw [rfCell_l hkd] at e
  rw [← e]
  have h2 := hP1
  simpa [sL] using h2
theorem Rf_getstatic (X : rfX Λ E y cc nL ret) {ix : Nat} {q : Nat × String × String × List Int32} (hq : q ∈ rfSL) (hw : Cond.fieldLink y.cls ix q.2.1 q.2.2.1 "[I" ∈ rfG) (hd : decode cc pc = .ok (.getstatic ix, 3)) (hp : pc + 3 = pc2) (kk : Rf Λ d E nL Q pc2 ls (.ref q.1 :: st) σ) : Rf Λ d E nL Q pc ls st σ := by
  subst hp
  obtain ⟨p, l, e, s, m, args, below, meth, c, D, tc, ad, b0⟩ := E
  intro H locs la hP hS hl
  obtain ⟨hx, hb, hr, hml, hown, hts, hlk, hK, hI, hz, hSt⟩ := X
  have hn : ∀ x, rfA Λ ad s.heap.size x → b0 ≤ x := by
    intro x hx1
    rcases hx1 with ⟨k, h1, rfl⟩ | h1
    · exact hI.2 k h1
    · omega
  exact va_gets hx hb ((hSt q hq).1.narrow hn) hS hown (hts _ hw) (fun _ h9 => h9) hd (kk H locs la hP hS hl)
theorem Rf_siaload (X : rfX Λ E y cc nL ret) {q : Nat × String × String × List Int32} (hq : q ∈ rfSL) {i : Int32} (hin : vp_in i q.2.2.2.length) (hd : decode cc pc = .ok (.iaload, 1)) (hp : pc + 1 = pc2) (kk : Rf Λ d E nL Q pc2 ls (.int (q.2.2.2.getD i.toNatClampNeg 0) :: st) σ) : Rf Λ d E nL Q pc ls (.int i :: .ref q.1 :: st) σ := by
  subst hp
  obtain ⟨p, l, e, s, m, args, below, meth, c, D, tc, ad, b0⟩ := E
  intro H locs la hP hS hl
  obtain ⟨hx, hb, hr, hml, hown, hts, hlk, hK, hI, hz, hSt⟩ := X
  have hn : ∀ x, rfA Λ ad s.heap.size x → b0 ≤ x := by
    intro x hx1
    rcases hx1 with ⟨k, h1, rfl⟩ | h1
    · exact hI.2 k h1
    · omega
  exact va_ti hx hb ((hSt q hq).2.narrow hn) hS hin rfl hd (kk H locs la hP hS hl)
theorem Rf_copyi (X : rfX Λ E y cc nL ret) {ix k k2 N N2 : Nat} {sp dp n : Int32} (hw : Cond.methodLink y.cls ix arraycopyName ∈ rfG) (hw2 : Cond.native arraycopyName ∈ rfG) (hw3 : Cond.static arraycopyName ∈ rfG) (hw4 : Cond.initialized "java/lang/System" ∈ rfG) (hk : k < Λ.1) (hkd : Λ.2.1 k = 0) (hN : Λ.2.2.1 k = N) (hk2 : k2 < Λ.1) (hkd2 : Λ.2.1 k2 = 0) (hN2 : Λ.2.2.1 k2 = N2) (h1 : ¬ sp < 0) (h2 : ¬ dp < 0) (h3 : ¬ n < 0) (h4 : sp.toNatClampNeg + n.toNatClampNeg ≤ N) (h5 : dp.toNatClampNeg + n.toNatClampNeg ≤ N2) (hd1 : 1 ≤ d) (hst : (st.map fun v => v.category).sum ≤ 8) (hd : decode cc pc = .ok (.invokestatic ix, 3)) (hp : pc + 3 = pc2) (kk : Rf Λ d E nL Q pc2 ls st (cF σ k k2 sp.toNatClampNeg dp.toNatClampNeg n.toNatClampNeg)) : Rf Λ d E nL Q pc ls (.int n :: .int dp :: .ref k2 :: .int sp :: .ref k :: st) σ := by
  subst hp
  subst hN
  subst hN2
  obtain ⟨p, l, e, s, m, args, below, meth, c, D, tc, ad, b0⟩ := E
  intro H locs la hP hS hl
  obtain ⟨hx, hb, hr, hml, hown, hts, hlk, hK, hI, hz, hSt⟩ := X
  have hcat : ((st.map (rfV ad)).map fun v => v.category).sum = (st.map fun v => v.category).sum := by
    rw [List.map_map]
    congr 1
    exact List.map_congr_left (fun v _ => rfV_cat ad v)
  refine va_copyi (D := D) (cl := vwCl) (tys := rfT tc) hx hb (hml.trans hl.1.symm) hown (hts _ hw) (hts _ hw2) (hts _ hw3) (hts _ hw4) hK hP (rfW_D (b0 := b0) σ hI) hS k k2 0 0 (by rw [rfW_at hk, rfCell_i hkd]) (by rw [rfW_at hk2, rfCell_i hkd2]) rfl rfl rfl h1 h2 h3 h4 h5 (fun i _ => rfl) (by show 1 ≤ d; exact hd1) (by rw [hcat]; show _ + (7 + 11) ≤ 64 * d; omega) hd (fun H1 locs1 hP1 _ hS1 => kk H1 locs1 la ?_ hS1 hl)
  have e := rfW_set (Λ := Λ) (tc := tc) (ad := ad) (σ := σ) (σ' := cF σ k k2 sp.toNatClampNeg dp.toNatClampNeg n.toNatClampNeg) (k := k2) rfl (fun j hj => rfCell_eq (fun b => rfl) (by simp [cF, hj]) (by simp [cF, hj]))
  rw [rfCell_i hkd2] at e
  rw [← e]
  have h9 := hP1
  simpa [cF] using h9
theorem Rf_copyl (X : rfX Λ E y cc nL ret) {ix k k2 N N2 : Nat} {sp dp n : Int32} (hw : Cond.methodLink y.cls ix arraycopyName ∈ rfG) (hw2 : Cond.native arraycopyName ∈ rfG) (hw3 : Cond.static arraycopyName ∈ rfG) (hw4 : Cond.initialized "java/lang/System" ∈ rfG) (hk : k < Λ.1) (hkd : Λ.2.1 k = 1) (hN : Λ.2.2.1 k = N) (hk2 : k2 < Λ.1) (hkd2 : Λ.2.1 k2 = 1) (hN2 : Λ.2.2.1 k2 = N2) (h1 : ¬ sp < 0) (h2 : ¬ dp < 0) (h3 : ¬ n < 0) (h4 : sp.toNatClampNeg + n.toNatClampNeg ≤ N) (h5 : dp.toNatClampNeg + n.toNatClampNeg ≤ N2) (hd1 : 1 ≤ d) (hst : (st.map fun v => v.category).sum ≤ 8) (hd : decode cc pc = .ok (.invokestatic ix, 3)) (hp : pc + 3 = pc2) (kk : Rf Λ d E nL Q pc2 ls st (cL σ k k2 sp.toNatClampNeg dp.toNatClampNeg n.toNatClampNeg)) : Rf Λ d E nL Q pc ls (.int n :: .int dp :: .ref k2 :: .int sp :: .ref k :: st) σ := by
  subst hp
  subst hN
  subst hN2
  obtain ⟨p, l, e, s, m, args, below, meth, c, D, tc, ad, b0⟩ := E
  intro H locs la hP hS hl
  obtain ⟨hx, hb, hr, hml, hown, hts, hlk, hK, hI, hz, hSt⟩ := X
  have hcat : ((st.map (rfV ad)).map fun v => v.category).sum = (st.map fun v => v.category).sum := by
    rw [List.map_map]
    congr 1
    exact List.map_congr_left (fun v _ => rfV_cat ad v)
  refine va_copyl (D := D) (cl := vwCl) (tys := rfT tc) hx hb (hml.trans hl.1.symm) hown (hts _ hw) (hts _ hw2) (hts _ hw3) (hts _ hw4) hK hP (rfW_D (b0 := b0) σ hI) hS k k2 1 1 (by rw [rfW_at hk, rfCell_l hkd]) (by rw [rfW_at hk2, rfCell_l hkd2]) rfl rfl rfl h1 h2 h3 h4 h5 (fun i _ => rfl) (by show 1 ≤ d; exact hd1) (by rw [hcat]; show _ + (7 + 11) ≤ 64 * d; omega) hd (fun H1 locs1 hP1 _ hS1 => kk H1 locs1 la ?_ hS1 hl)
  have e := rfW_set (Λ := Λ) (tc := tc) (ad := ad) (σ := σ) (σ' := cL σ k k2 sp.toNatClampNeg dp.toNatClampNeg n.toNatClampNeg) (k := k2) rfl (fun j hj => rfCell_eq (fun b => rfl) (by simp [cL, hj]) (by simp [cL, hj]))
  rw [rfCell_l hkd2] at e
  rw [← e]
  have h9 := hP1
  simpa [cL] using h9
theorem Rf_max (X : rfX Λ E y cc nL ret) {ix : Nat} {x z : Int32} (hw : Cond.methodLink y.cls ix Lib.Math.max.name ∈ rfG) (hw2 : Cond.static Lib.Math.max.name ∈ rfG) (hw3 : Cond.initialized "java/lang/Math" ∈ rfG) (hw4 : Cond.code Lib.Math.max.name Lib.Math.max.code 2 (some .int) ∈ rfG) (hd1 : 1 ≤ d) (hst : (st.map fun v => v.category).sum ≤ 8) (hd : decode cc pc = .ok (.invokestatic ix, 3)) (hp : pc + 3 = pc2) (kk : Rf Λ d E nL Q pc2 ls (.int (if x < z then z else x) :: st) σ) : Rf Λ d E nL Q pc ls (.int z :: .int x :: st) σ := by
  subst hp
  obtain ⟨p, l, e, s, m, args, below, meth, c, D, tc, ad, b0⟩ := E
  intro H locs la hP hS hl
  obtain ⟨hx, hb, hr, hml, hown, hts, hlk, hK, hI, hz, hSt⟩ := X
  have hcat : ((st.map (rfV ad)).map fun v => v.category).sum = (st.map fun v => v.category).sum := by
    rw [List.map_map]
    congr 1
    exact List.map_congr_left (fun v _ => rfV_cat ad v)
  exact va_mmax hx hb (hml.trans hl.1.symm) hown (hts _ hw) (hts _ hw2) (hts _ hw3) (hts _ hw4) (by show 1 ≤ d; exact hd1) (by rw [hcat]; show _ + 13 ≤ 64 * d; omega) (Nat.zero_le _) (Nat.zero_le _) hd (kk H locs la hP hS hl)
theorem Rf_min (X : rfX Λ E y cc nL ret) {ix : Nat} {x z : Int32} (hw : Cond.methodLink y.cls ix Lib.Math.min.name ∈ rfG) (hw2 : Cond.static Lib.Math.min.name ∈ rfG) (hw3 : Cond.initialized "java/lang/Math" ∈ rfG) (hw4 : Cond.code Lib.Math.min.name Lib.Math.min.code 2 (some .int) ∈ rfG) (hd1 : 1 ≤ d) (hst : (st.map fun v => v.category).sum ≤ 8) (hd : decode cc pc = .ok (.invokestatic ix, 3)) (hp : pc + 3 = pc2) (kk : Rf Λ d E nL Q pc2 ls (.int (if z < x then z else x) :: st) σ) : Rf Λ d E nL Q pc ls (.int z :: .int x :: st) σ := by
  subst hp
  obtain ⟨p, l, e, s, m, args, below, meth, c, D, tc, ad, b0⟩ := E
  intro H locs la hP hS hl
  obtain ⟨hx, hb, hr, hml, hown, hts, hlk, hK, hI, hz, hSt⟩ := X
  have hcat : ((st.map (rfV ad)).map fun v => v.category).sum = (st.map fun v => v.category).sum := by
    rw [List.map_map]
    congr 1
    exact List.map_congr_left (fun v _ => rfV_cat ad v)
  exact va_mmin hx hb (hml.trans hl.1.symm) hown (hts _ hw) (hts _ hw2) (hts _ hw3) (hts _ hw4) (by show 1 ≤ d; exact hd1) (by rw [hcat]; show _ + 13 ≤ 64 * d; omega) (Nat.zero_le _) (Nat.zero_le _) hd (kk H locs la hP hS hl)
theorem rf_end {p : Program} {l : Launch} {e : Env} {s : State} {m : MethodId} {args : Array Value} {below : List Frame} {meth : Method} {c : Code} {D : va_G} {tc : Nat → ClassId} {ad : Nat → Nat} {b0 : Nat} {H : Heap} {locs : List Loc} {r : Option Value} (X : rfX Λ (p, l, e, s, m, args, below, meth, c, D, tc, ad, b0) y cc nL ret) (hP : va_P D vwCl (rfW Λ tc ad σ) H) (hS : va_S (rfA Λ ad s.heap.size) s.heap H locs) (hq : Q r σ) {t : State} (ht : t.heap = H) (hW : s.WarmedH t.vm) : rfQ Λ D tc ad b0 s.heap.size Q args s (.returned (r.map (rfV ad))) t := by
  obtain ⟨hx, hb, hr, hml, hown, hts, hlk, hK, hI, hz, hSt⟩ := X
  have hn : ∀ x, rfA Λ ad s.heap.size x → b0 ≤ x := by
    intro x hx1
    rcases hx1 with ⟨k, h1, rfl⟩ | h1
    · exact hI.2 k h1
    · omega
  refine ⟨⟨r, σ, rfl, hq, by rw [ht]; exact hP, va_K.moved hW.alike hK, hI, by rw [ht]; exact Nat.le_trans hz hS.1, ?_⟩, hS.F ht⟩
  rw [ht]
  exact (hSt.kept (fun a h1 h2 => hS.2.1 a h1 (fun q => h2 (hn a q)))).moved hW.alike
theorem Rf_iret {ty : FieldType} (X : rfX Λ E y cc nL (some ty)) {v : Int32} (hn : narrow ty (.int v) = .int v) (hd : decode cc pc = .ok (.ireturn, 1)) (hq : Q (some (.int v)) σ) : Rf Λ d E nL Q pc ls [.int v] σ := by
  obtain ⟨p, l, e, s, m, args, below, meth, c, D, tc, ad, b0⟩ := E
  intro H locs la hP hS hl
  have X0 := X
  obtain ⟨hx, hb, hr, hml, hown, hts, hlk, hK, hI, hz, hSt⟩ := X
  exact W.zret hx hb hr hn (fun t ht hW => rf_end (r := some (.int v)) X0 hP hS hq ht hW) hS.2.2 hd hlk
theorem Rf_lret (X : rfX Λ E y cc nL (some .long)) {v : Int64} (hd : decode cc pc = .ok (.lreturn, 1)) (hq : Q (some (.long v)) σ) : Rf Λ d E nL Q pc ls [.long v] σ := by
  obtain ⟨p, l, e, s, m, args, below, meth, c, D, tc, ad, b0⟩ := E
  intro H locs la hP hS hl
  have X0 := X
  obtain ⟨hx, hb, hr, hml, hown, hts, hlk, hK, hI, hz, hSt⟩ := X
  exact W.lret hx hb hr (fun t ht hW => rf_end (r := some (.long v)) X0 hP hS hq ht hW) hS.2.2 hd hlk
theorem Rf_aret {C : String} (X : rfX Λ E y cc nL (some (.object C))) {k : Nat} (hd : decode cc pc = .ok (.areturn, 1)) (hq : Q (some (.ref k)) σ) : Rf Λ d E nL Q pc ls [.ref k] σ := by
  obtain ⟨p, l, e, s, m, args, below, meth, c, D, tc, ad, b0⟩ := E
  intro H locs la hP hS hl
  have X0 := X
  obtain ⟨hx, hb, hr, hml, hown, hts, hlk, hK, hI, hz, hSt⟩ := X
  exact W.aret hx hb hr (Or.inl ⟨_, rfl⟩) (Or.inr ⟨_, rfl⟩) (fun t ht hW => rf_end (r := some (.ref k)) X0 hP hS hq ht hW) hS.2.2 hd hlk
theorem Rf_vret (X : rfX Λ E y cc nL none) (hd : decode cc pc = .ok (.return_, 1)) (hq : Q none σ) : Rf Λ d E nL Q pc ls [] σ := by
  obtain ⟨p, l, e, s, m, args, below, meth, c, D, tc, ad, b0⟩ := E
  intro H locs la hP hS hl
  have X0 := X
  obtain ⟨hx, hb, hr, hml, hown, hts, hlk, hK, hI, hz, hSt⟩ := X
  exact W.vret hx hb hr (fun t ht hW => rf_end (r := none) X0 hP hS hq ht hW) hS.2.2 hd hlk
theorem RM.intro {as : List Value} (hy : plainName y.cls = true) (hnl : (lg_sl as).length ≤ nL) (h : ∀ E : rfE, rfX Λ E y cc nL ret → Rf Λ d E nL Q 0 (lv_args 0 as) [] σ) : RM Λ d y cc nL ret as σ Q := by
  intro l D tc ad b0 sz
  refine Met.ofW (cc := cc) (maxL := nL) (ret := ret) hy rfl ?_
  intro p e s m args below meth c s₁ B hml hv
  obtain ⟨rfl, hsz, hP, hK, hI, hz, hSt⟩ := hv
  have hts := atoms_spec (ws := Cond.code y cc nL ret :: rfG) B.pre
  have hown : s.vm.findClass y.cls = some m.cls := findClass_of_methodNamed B.named
  subst hsz
  have X : rfX Λ (p, l, e, s, m, (as.map (rfV ad)).toArray, below, meth, c, D, tc, ad, b0) y cc nL ret := ⟨B.exec, B.bytes, B.returns, hml, hown, fun w hw => hts w (List.mem_cons_of_mem _ hw), B.notSynchronized, hK, hI, hz, hSt⟩
  have hsl : (lg_sl (as.map (rfV ad))).length = (lg_sl as).length := by
    unfold lg_sl
    rw [List.length_flatMap, List.length_flatMap, List.map_map]
    congr 1
    refine List.map_congr_left (fun v _ => ?_)
    simp only [Function.comp, rfV_cat]
    split <;> rfl
  have hl := lv_entry (as.map (rfV ad)) (n := nL) (by rw [hsl]; exact hnl)
  rw [lg_entry_eq]
  generalize (lg_sl (as.map (rfV ad)) ++ List.replicate (nL - (lg_sl (as.map (rfV ad))).length) Slot.unset).toArray = la at hl ⊢
  have ha : ∀ (as : List Value) (n : Nat), lv_args n (as.map (rfV ad)) = (lv_args n as).map (fun q => (q.1, rfV ad q.2)) := by
    intro as
    induction as with
    | nil => intro n; rfl
    | cons v r ih =>
      intro n
      simp only [List.map_cons, lv_args, rfV_cat, ih]
  rw [ha] at hl
  exact h _ X s.heap [] la hP va_S.rf hl
theorem rf_run {p : Program} {l : Launch} {e : Env} {s : State} {m : MethodId} {args a : Array Value} {below : List Frame} {meth : Method} {c : Code} {D : va_G} {tc : Nat → ClassId} {ad : Nat → Nat} {b0 : Nat} {H : Heap} {locs : List Loc} {la : Array Slot} {rest st0 : List Value} {Q2 : Option Value → rfS → Prop}
    (hr : va_Run p l e (rfR d) s m args below meth c H locs 0 0 0 0 (F0 m pc la st0) (rest.map (rfV ad)) (rfQ Λ D tc ad b0 H.size Q2 a) (rfA Λ ad H.size)) (hS : va_S (rfA Λ ad s.heap.size) s.heap H locs) (hl : lv_has la nL (ls.map (fun q => (q.1, rfV ad q.2)))) (kk : ∀ r σ3, Q2 r σ3 → Rf Λ d (p, l, e, s, m, args, below, meth, c, D, tc, ad, b0) nL Q (pc + 3) ls (r.toList ++ rest) σ3) :
    W p l e (rfR d) s m args below meth c H locs 0 0 (MQ below (rfQ Λ D tc ad b0 s.heap.size Q) args s 0 0 (rfA Λ ad s.heap.size)) (F0 m pc la st0) := by
  intro T hT X
  obtain ⟨v, st₀, t, T', L, h0, X', hL, e1, e2, ⟨⟨r, σ3, hv, hq, hB⟩, hz, hk⟩, st⟩ := hr T hT X
  cases hv
  rw [h0] at hz hk
  have hA : ∀ q, q < H.size → rfA Λ ad H.size q → rfA Λ ad s.heap.size q := by
    intro q h1 h2
    rcases h2 with h2 | h2
    · exact Or.inl h2
    · omega
  have hf : ∀ q, rfA Λ ad H.size q → rfA Λ ad s.heap.size q := by
    intro q h2
    rcases h2 with h2 | h2
    · exact Or.inl h2
    · exact Or.inr (Nat.le_trans hS.1 h2)
  obtain ⟨t2, a1, b1⟩ := kk r σ3 hq T'.heap (locs ++ L) la (by rw [e1]; exact hB.1)
    ⟨Nat.le_trans hS.1 (by rw [e1]; exact hz), fun q h1 h2 => by rw [e1, hk q (Nat.lt_of_lt_of_le h1 hS.1) (fun z => h2 (hA q (Nat.lt_of_lt_of_le h1 hS.1) z))]; exact hS.2.1 q h1 h2, fun q hq => by
      rcases List.mem_append.mp hq with h | h
      · exact hS.2.2 q h
      · exact hf _ (hL q h)⟩ hl T' rfl X'
  refine ⟨t2, st t2 ?_, b1⟩
  have e9 : List.map (rfV ad) (r.toList ++ rest) = (r.map (rfV ad)).toList ++ rest.map (rfV ad) := by
    rw [List.map_append]
    cases r <;> rfl
  rw [e9] at a1
  exact a1
theorem Rf_callV (X : rfX Λ E y cc nL ret) {ix n2 d2 nL2 : Nat} {y2 : MethodName} {cc2 : ByteArray} {ret2 : Option FieldType} {as stk : List Value} {Q2 : Option Value → rfS → Prop} {k ci : Nat} {C : String} {T : u_T} {N : Nat} (hcl : vwCl[ci]? = some (C, T, N)) (hk : k < Λ.1) (hkd : Λ.2.1 k = ci + 4) (hM : RM Λ d2 y2 cc2 nL2 ret2 (.ref k :: as) σ Q2) (hdd : d2 + 1 ≤ d) (hnl : nL2 ≤ 45) (hw : Cond.methodLink y.cls ix y2 ∈ rfG) (hwi : Cond.instanceMethod y2 ∈ rfG) (hws : Cond.selects C y2 y2 ∈ rfG) (hwn : Cond.initialized C ∈ rfG) (hwc : Cond.code y2 cc2 nL2 ret2 ∈ rfG) (hdn : y2.cls = C ∧ y2.cls ≠ "java/lang/invoke/MethodHandle" ∧ y2.cls ≠ "java/lang/invoke/VarHandle" ∧ (parseMethodDescriptor y2.desc).map (fun d => d.parameters.length) = some n2) (hlen : as.length = n2) (hstk : stk = as.reverse ++ .ref k :: st) (hst : (st.map fun v => v.category).sum ≤ 8) (hd : decode cc pc = .ok (.invokevirtual ix, 3)) (hp : pc + 3 = pc2) (kk : ∀ r σ2, Q2 r σ2 → Rf Λ d E nL Q pc2 ls (r.toList ++ st) σ2) : Rf Λ d E nL Q pc ls stk σ := by
  subst hp
  subst hstk
  obtain ⟨p, l, e, s, m, args, below, meth, c, D, tc, ad, b0⟩ := E
  intro H locs la hP hS hl
  obtain ⟨hx, hb, hr, hml, hown, hts, hlk, hK, hI, hz, hSt⟩ := X
  have hblind : ∀ (as2 : List Value), FrameBlind (va_Pc (as2.map (rfV ad)) (fun U => U.heap.size = H.size ∧ rfB Λ D tc ad b0 σ U)) := by
    intro as2 a U g mk q
    obtain ⟨q0, q1, qP, qK, qI, qz, qS⟩ := q
    exact ⟨q0, q1, qP, va_K.moved (u := U) (U := U.calling g mk a) (Vm.Alike.refl U.vm) qK, qI, qz, rfSt.moved (s := U) (t := U.calling g mk a) (Vm.Alike.refl U.vm) qS⟩
  have hn : ∀ x, rfA Λ ad s.heap.size x → b0 ≤ x := by
    intro x hx1
    rcases hx1 with ⟨k, h1, rfl⟩ | h1
    · exact hI.2 k h1
    · omega
  have hB : ∀ U : State, U.heap = H → s.WarmedH U.vm → U.heap.size = H.size ∧ rfB Λ D tc ad b0 σ U := by
    intro U hU hW
    refine ⟨by rw [hU], by rw [hU]; exact hP, va_K.moved hW.alike hK, hI, by rw [hU]; exact Nat.le_trans hz hS.1, ?_⟩
    rw [hU]
    exact (hSt.kept (fun a h1 h2 => hS.2.1 a h1 (fun q => h2 (hn a q)))).moved hW.alike
  have hcat : ((st.map (rfV ad)).map fun v => v.category).sum = (st.map fun v => v.category).sum := by
    rw [List.map_map]
    congr 1
    exact List.map_congr_left (fun v _ => rfV_cat ad v)
  have hG : GoodIn rfG (Cond.code y2 cc2 nL2 ret2 :: rfG) := rf_good (fun w hw => by
    rcases List.mem_cons.mp hw with h | h
    · rw [h]; exact hwc
    · exact h)
  have hroom : (rfR d2).frames + 1 ≤ (rfR d).frames ∧ 8 + (nL2 + 11) + (rfR d2).locals ≤ (rfR d).locals := ⟨hdd, by show 8 + (nL2 + 11) + 64 * d2 ≤ 64 * d; omega⟩
  refine rf_run (la := la) (va_runV (As := as.map (rfV ad)) (rest := st.map (rfV ad)) (C := C) (b := ad k) ⟨hx, hb, hml, hown, hts⟩ (hM l D tc ad b0 H.size) (cwV n2 hts (C := C) (index := ix) (rf_good (fun w hw9 => ?_)) rfl rfl rfl hdn hroom) ⟨hblind _, va_recv hK hP hcl (q0 := k) (by rw [rfW_at hk, rfCell_obj hkd]), fun U hU hW => ⟨rfl, hB U hU hW⟩⟩ rfl (by rw [List.length_map]; exact hlen) hl.1 (by rw [List.map_append, List.map_reverse]; rfl) (lv_room (by rw [hcat]; exact hst)) hd ⟨Nat.zero_le _, Nat.zero_le _⟩) hS hl kk
  unfold wsV at hw9
  rcases List.mem_append.mp hw9 with h | h
  · simp only [List.mem_cons, List.not_mem_nil, or_false] at h
    rcases h with h | h | h | h
    · rw [h]; exact hw
    · rw [h]; exact hwi
    · rw [h]; exact hws
    · rw [h]; exact hwn
  · exact (hG w h).1
theorem Rf_callS (X : rfX Λ E y cc nL ret) {ix n2 d2 nL2 : Nat} {y2 : MethodName} {cc2 : ByteArray} {ret2 : Option FieldType} {as stk : List Value} {Q2 : Option Value → rfS → Prop} (hM : RM Λ d2 y2 cc2 nL2 ret2 as σ Q2) (hdd : d2 + 1 ≤ d) (hnl : nL2 ≤ 45) (hw : Cond.methodLink y.cls ix y2 ∈ rfG) (hws : Cond.static y2 ∈ rfG) (hwn : Cond.initialized y2.cls ∈ rfG) (hwc : Cond.code y2 cc2 nL2 ret2 ∈ rfG) (hdn : y2.cls ≠ "java/lang/invoke/MethodHandle" ∧ y2.cls ≠ "java/lang/invoke/VarHandle" ∧ (parseMethodDescriptor y2.desc).map (fun d => d.parameters.length) = some n2) (hlen : as.length = n2) (hstk : stk = as.reverse ++ st) (hst : (st.map fun v => v.category).sum ≤ 8) (hd : decode cc pc = .ok (.invokestatic ix, 3)) (hp : pc + 3 = pc2) (kk : ∀ r σ2, Q2 r σ2 → Rf Λ d E nL Q pc2 ls (r.toList ++ st) σ2) : Rf Λ d E nL Q pc ls stk σ := by
  subst hp
  subst hstk
  obtain ⟨p, l, e, s, m, args, below, meth, c, D, tc, ad, b0⟩ := E
  intro H locs la hP hS hl
  obtain ⟨hx, hb, hr, hml, hown, hts, hlk, hK, hI, hz, hSt⟩ := X
  have hblind : ∀ (as2 : List Value), FrameBlind (va_Pc (as2.map (rfV ad)) (fun U => U.heap.size = H.size ∧ rfB Λ D tc ad b0 σ U)) := by
    intro as2 a U g mk q
    obtain ⟨q0, q1, qP, qK, qI, qz, qS⟩ := q
    exact ⟨q0, q1, qP, va_K.moved (u := U) (U := U.calling g mk a) (Vm.Alike.refl U.vm) qK, qI, qz, rfSt.moved (s := U) (t := U.calling g mk a) (Vm.Alike.refl U.vm) qS⟩
  have hn : ∀ x, rfA Λ ad s.heap.size x → b0 ≤ x := by
    intro x hx1
    rcases hx1 with ⟨k, h1, rfl⟩ | h1
    · exact hI.2 k h1
    · omega
  have hB : ∀ U : State, U.heap = H → s.WarmedH U.vm → U.heap.size = H.size ∧ rfB Λ D tc ad b0 σ U := by
    intro U hU hW
    refine ⟨by rw [hU], by rw [hU]; exact hP, va_K.moved hW.alike hK, hI, by rw [hU]; exact Nat.le_trans hz hS.1, ?_⟩
    rw [hU]
    exact (hSt.kept (fun a h1 h2 => hS.2.1 a h1 (fun q => h2 (hn a q)))).moved hW.alike
  have hcat : ((st.map (rfV ad)).map fun v => v.category).sum = (st.map fun v => v.category).sum := by
    rw [List.map_map]
    congr 1
    exact List.map_congr_left (fun v _ => rfV_cat ad v)
  have hG : GoodIn rfG (Cond.code y2 cc2 nL2 ret2 :: rfG) := rf_good (fun w hw => by
    rcases List.mem_cons.mp hw with h | h
    · rw [h]; exact hwc
    · exact h)
  have hroom : (rfR d2).frames + 1 ≤ (rfR d).frames ∧ 8 + (nL2 + 11) + (rfR d2).locals ≤ (rfR d).locals := ⟨hdd, by show 8 + (nL2 + 11) + 64 * d2 ≤ 64 * d; omega⟩
  exact rf_run (la := la) (va_runS (As := as.map (rfV ad)) (rest := st.map (rfV ad)) ⟨hx, hb, hml, hown, hts⟩ (hM l D tc ad b0 H.size) ⟨callB_of n2 hts hG rfl rfl rfl (hts _ hwn) (hts _ hw) hdn hroom, hts _ hws⟩ ⟨hblind _, fun U hU hW => ⟨rfl, hB U hU hW⟩⟩ rfl (by rw [List.length_map]; exact hlen) hl.1 (by rw [List.map_append, List.map_reverse]) (lv_room (by rw [hcat]; exact hst)) hd ⟨Nat.zero_le _, Nat.zero_le _⟩) hS hl kk
end RfHeap
end
section

def rfSw : List (Int32 × Nat) → Nat → Int32 → (Nat → Prop) → Prop
  | [], dt, _, K => K dt
  | (v, t) :: r, dt, x, K => (x = v → K t) ∧ (¬ x = v → rfSw r dt x K)
def rfTg (sw : List (Int32 × Nat)) (dt : Nat) (z : Int) : Nat := ((sw.find? (fun q => q.1.toInt == z)).map (fun q => q.2)).getD dt
theorem rfSw_tg {sw : List (Int32 × Nat)} {dt : Nat} {x : Int32} {K : Nat → Prop} (h : rfSw sw dt x K) : K (rfTg sw dt x.toInt) := by
  induction sw with
  | nil => exact h
  | cons q r ih =>
    obtain ⟨v, t⟩ := q
    obtain ⟨h1, h2⟩ := h
    unfold rfTg
    rw [List.find?_cons]
    by_cases hx : x = v
    · subst hx
      simp
      exact h1 rfl
    · have : (v.toInt == x.toInt) = false := by
        simp only [beq_eq_false_iff_ne, ne_eq]
        intro q
        exact hx (Int32.toInt_inj.mp q.symm)
      simp only [this]
      exact ih (h2 hx)
theorem rfLk_tg (pc : Nat) (dflt : Int) (dt : Nat) (hdt : (pc : Int) + dflt = dt) : ∀ (ps : List (Int × Int)) (sw : List (Int32 × Nat)), ps.map (fun q => (q.1, (pc : Int) + q.2)) = sw.map (fun q => (q.1.toInt, (q.2 : Int))) → ∀ z : Int, (pc : Int) + Op.lookupswitch.offset ps dflt z = (rfTg sw dt z : Nat)
  | [], [], _, z => by simpa [Op.lookupswitch.offset_nil, rfTg] using hdt
  | [], _ :: _, h, _ => by cases h
  | _ :: _, [], h, _ => by cases h
  | (a, o) :: ps, (v, t) :: sw, h, z => by
    simp only [List.map_cons, List.cons.injEq, Prod.mk.injEq] at h
    obtain ⟨⟨h1, h2⟩, h3⟩ := h
    have ih := rfLk_tg pc dflt dt hdt ps sw h3 z
    rw [Op.lookupswitch.offset_cons]
    unfold rfTg at ih ⊢
    rw [List.find?_cons]
    by_cases hz : z = a
    · have hb : (v.toInt == z) = true := by rw [← h1, hz]; simp
      simp only [hb]
      rw [if_pos (by first | exact hz | exact hz.symm)]
      simpa using h2
    · have hb : (v.toInt == z) = false := by
        simp only [beq_eq_false_iff_ne, ne_eq]
        intro q
        exact hz (by rw [h1, q])
      simp only [hb]
      rw [if_neg (by first | exact hz | exact fun q => hz q.symm)]
      exact ih
section RfSwitch
variable {Λ : rfL} {d : Nat} {E : rfE} {y : MethodName} {cc : ByteArray} {nL : Nat} {ret : Option FieldType} {Q : Option Value → rfS → Prop} {pc pc2 : Nat} {ls ls2 : List (Nat × Value)} {st : List Value} {σ : rfS}

theorem Rf_lsw (X : rfX Λ E y cc nL ret) {dflt : Int} {ps : Array (Int × Int)} {len dt : Nat} {x : Int32} (sw : List (Int32 × Nat)) (hd : decode cc pc = .ok (.lookupswitch dflt ps, len)) (ho : (ps.toList.zip (ps.toList.drop 1)).all (fun (a, next) => a.1 < next.1) = true) (hdt : (pc : Int) + dflt = dt) (hsw : ps.toList.map (fun q => (q.1, (pc : Int) + q.2)) = sw.map (fun q => (q.1.toInt, (q.2 : Int)))) (k : rfSw sw dt x (fun t => Rf Λ d E nL Q t ls st σ)) : Rf Λ d E nL Q pc ls (.int x :: st) σ := by
  have k2 := rfSw_tg k
  obtain ⟨p, l, e, s, m, args, below, meth, c, D, tc, ad, b0⟩ := E
  intro H locs la hP hS hl
  obtain ⟨hx, hb, hr, hml, hown, hts, hlk, hK, hI, hz, hSt⟩ := X
  exact lv_lookup hx hb hd ho rfl (rfLk_tg pc dflt dt hdt _ sw hsw x.toInt) (k2 H locs la hP hS hl)
theorem Rf_tsw (X : rfX Λ E y cc nL ret) {dflt lo hi : Int} {offs : Array Int} {len dt : Nat} {x : Int32} (sw : List (Int32 × Nat)) (hd : decode cc pc = .ok (.tableswitch dflt lo hi offs, len)) (hdt : (pc : Int) + dflt = dt) (hsz : hi - lo + 1 = offs.size) (hin : (List.range offs.size).all (fun i => offs[i]? == some ((rfTg sw dt (lo + i) : Int) - pc)) = true) (hout : sw.all (fun q => decide (lo ≤ q.1.toInt) && decide (q.1.toInt ≤ hi)) = true) (k : rfSw sw dt x (fun t => Rf Λ d E nL Q t ls st σ)) : Rf Λ d E nL Q pc ls (.int x :: st) σ := by
  have k2 := rfSw_tg k
  obtain ⟨p, l, e, s, m, args, below, meth, c, D, tc, ad, b0⟩ := E
  intro H locs la hP hS hl
  obtain ⟨hx, hb, hr, hml, hown, hts, hlk, hK, hI, hz, hSt⟩ := X
  by_cases h : x.toInt < lo ∨ hi < x.toInt
  · have e : rfTg sw dt x.toInt = dt := by
      unfold rfTg
      rw [List.find?_eq_none.mpr]
      · rfl
      · intro q hq
        have h3 := List.all_eq_true.mp hout q hq
        simp only [Bool.and_eq_true, decide_eq_true_eq] at h3
        simp only [beq_iff_eq]
        omega
    rw [e] at k2
    exact lv_tableOut hx hb hd h hdt (k2 H locs la hP hS hl)
  · have h1 : ¬ x.toInt < lo := fun q => h (Or.inl q)
    have h2 : ¬ hi < x.toInt := fun q => h (Or.inr q)
    have hi2 : (x.toInt - lo).toNat < offs.size := by omega
    have h3 := List.all_eq_true.mp hin (x.toInt - lo).toNat (List.mem_range.mpr hi2)
    have e2 : lo + ((x.toInt - lo).toNat : Int) = x.toInt := by omega
    rw [e2] at h3
    exact lv_tableIn hx hb hd h1 h2 (beq_iff_eq.mp h3) (tgt := rfTg sw dt x.toInt) (by omega) (k2 H locs la hP hS hl)
theorem RM.weaken {as : List Value} {Q2 : Option Value → rfS → Prop} (h : RM Λ d y cc nL ret as σ Q2) (hq : ∀ r σ2, Q2 r σ2 → Q r σ2) : RM Λ d y cc nL ret as σ Q := by
  intro l D tc ad b0 sz
  intro p e ha hc hk s m args below hf happ hP hK
  obtain ⟨k, o, h1, h2, h3, ⟨⟨⟨r, σ2, ho, hq2, hB⟩, hF⟩, hL⟩⟩ := h l D tc ad b0 sz p e ha hc hk s m args below hf happ hP hK
  exact ⟨k, o, h1, h2, h3, ⟨⟨⟨r, σ2, ho, hq _ _ hq2, hB⟩, hF⟩, hL⟩⟩
end RfSwitch
def qi (Q : Int32 → rfS → Prop) : Option Value → rfS → Prop := fun r σ => ∃ v, r = some (.int v) ∧ Q v σ
def ql (Q : Int64 → rfS → Prop) : Option Value → rfS → Prop := fun r σ => ∃ v, r = some (.long v) ∧ Q v σ
def qr (Q : Nat → rfS → Prop) : Option Value → rfS → Prop := fun r σ => ∃ v, r = some (.ref v) ∧ Q v σ
def qv (Q : rfS → Prop) : Option Value → rfS → Prop := fun r σ => r = none ∧ Q σ
theorem kc0 : rfCl 0 RX0 TX0 4 tyX0 := ⟨rfl, rfl, rf_ws inX0, tyX0_ok, nmX0⟩
theorem kc1 : rfCl 1 RX1 TX1 6 tyX1 := ⟨rfl, rfl, rf_ws inX1, tyX1_ok, nmX1⟩
theorem kc2 : rfCl 2 RX2 TX2 7 tyX2 := ⟨rfl, rfl, rf_ws inX2, tyX2_ok, nmX2⟩
theorem kc3 : rfCl 3 RX3 TX3 8 tyX3 := ⟨rfl, rfl, rf_ws inX3, tyX3_ok, nmX3⟩
theorem kc4 : rfCl 4 RX4 TX4 4 tyX4 := ⟨rfl, rfl, rf_ws inX4, tyX4_ok, nmX4⟩
theorem kc5 : rfCl 5 RX5 TX5 4 tyX5 := ⟨rfl, rfl, rf_ws inX5, tyX5_ok, nmX5⟩
theorem kc6 : rfCl 6 RX6 TX6 10 tyX6 := ⟨rfl, rfl, rf_ws inX6, tyX6_ok, nmX6⟩
theorem kc7 : rfCl 7 RX7 TX7 11 tyX7 := ⟨rfl, rfl, rf_ws inX7, tyX7_ok, nmX7⟩
theorem kc8 : rfCl 8 RX8 TX8 43 tyX8 := ⟨rfl, rfl, rf_ws inX8, tyX8_ok, nmX8⟩
end
section
def rtC (a : Nat) : List (List (Option Nat)) := [[some 50, none, some 51, none], [some 45, some 46, some 47, some 48, none, none], [none, some 2, some 3, some 4, some 5, some 6, some 11], [some 7, none, some 8, some 9, none, none, some 10, none], [none, none, none, some (a+1)], [some (a+1), some (a+2), none, none], [none, none, some 21, none, some 1, some 22, some 23, none, some 24, some 25], [some 1, some 12, some 15, some 16, some 19, none, none, some 20, some 44, some 49, some 52], [none, none, none, none, none, none, none, none, none, none, none, none, none, none, none, none, none, none, none, none, none, none, none, none, none, none, none, none, none, none, none, none, none, none, none, none, none, none, none, none, none, none, none]]
def rtM : List (List (Option Nat)) := [[none, none, none, none], [none, none, none, none, none, none], [none, none, none, none, none, none, none], [none, none, none, none, none, none, none, none], [none, none, none, none], [none, none, none, none], [none, none, none, none, none, none, none, none, none, none], [none, none, none, none, none, none, none, none, none, none, none], [none, some 1, some 2, none, some 3, none, none, some 4, some 5, some 6, some 7, none, none, none, none, some 8, some 9, some 10, some 11, some 12, some 13, some 14, none, none, some 15, some 16, none, none, some 17, none, some 18, none, some 19, some 20, some 21, some 22, some 23, some 24, some 25, some 26, none, none, some 27]]
def ΛC : rfL := (65, fun k => [11, 6, 0, 0, 0, 0, 7, 0, 0, 0, 0, 0, 9, 0, 0, 0, 9, 0, 0, 0, 10, 0, 2, 0, 0, 0, 9, 0, 0, 9, 0, 0, 9, 0, 0, 9, 0, 0, 9, 0, 0, 9, 0, 0, 5, 0, 0, 0, 0, 4, 0, 0, 3, 8, 1, 8, 1, 8, 1, 8, 1, 8, 1, 8, 1].getD k 99, fun k => [0, 0, 7, 7, 7, 7, 0, 121, 121, 120, 121, 6, 0, 7, 7, 5, 0, 7, 7, 5, 0, 4, 6, 4, 1024, 7, 0, 7, 7, 0, 7, 7, 0, 7, 7, 0, 7, 7, 0, 7, 7, 0, 7, 7, 0, 40, 40, 40, 40, 0, 50, 24, 6, 0, 60, 0, 60, 0, 60, 0, 60, 0, 60, 0, 60].getD k 0, fun c a j => ((rtC a).getD c []).getD j none, fun k j => if k = 22 then 26 + 3 * j else 53 + 2 * j)
def ΛM : rfL := (28, fun k => [12, 0, 0, 0, 0, 0, 0, 0, 0, 0, 0, 0, 0, 0, 0, 0, 0, 0, 0, 0, 0, 0, 1, 0, 0, 0, 0, 0].getD k 99, fun k => [0, 42, 2, 120, 60, 60, 60, 200, 61, 61, 61, 200, 200, 6, 5, 16, 5, 160, 50, 24, 6, 6, 360, 16, 16, 7, 7, 128].getD k 0, fun c _ j => (rtM.getD c []).getD j none, fun _ _ => 0)
def isSt (a : Nat) : Prop := a ∈ [12, 16, 26, 29, 32, 35, 38, 41]
def isSh (a : Nat) : Prop := a ∈ [53, 55, 57, 59, 61, 63]
theorem isSt_f : ∀ a ∈ [12, 16, 26, 29, 32, 35, 38, 41], (a < ΛC.1 ∧ ΛC.2.1 a = 9) ∧ (a + 1 < ΛC.1 ∧ ΛC.2.1 (a + 1) = 0 ∧ ΛC.2.2.1 (a + 1) = 7) ∧ (a + 2 < ΛC.1 ∧ ΛC.2.1 (a + 2) = 0 ∧ ΛC.2.2.1 (a + 2) = 7) := by decide +kernel
theorem isSh_f : ∀ a ∈ [53, 55, 57, 59, 61, 63], (a < ΛC.1 ∧ ΛC.2.1 a = 8) ∧ (a + 1 < ΛC.1 ∧ ΛC.2.1 (a + 1) = 1 ∧ ΛC.2.2.1 (a + 1) = 60) := by decide +kernel
theorem isSt_of {i : Int32} (h : vp_in i 6) : isSt (26 + 3 * i.toNatClampNeg) := by
  have h1 : i.toNatClampNeg < 6 := Nat.not_le.mp fun q => h (Or.inr q)
  generalize i.toNatClampNeg = j at h1 ⊢
  match j, h1 with
  | 0, _ => unfold isSt; decide
  | 1, _ => unfold isSt; decide
  | 2, _ => unfold isSt; decide
  | 3, _ => unfold isSt; decide
  | 4, _ => unfold isSt; decide
  | 5, _ => unfold isSt; decide
theorem isSh_of {i : Int32} (h : vp_in i 6) : isSh (53 + 2 * i.toNatClampNeg) := by
  have h1 : i.toNatClampNeg < 6 := Nat.not_le.mp fun q => h (Or.inr q)
  generalize i.toNatClampNeg = j at h1 ⊢
  match j, h1 with
  | 0, _ => unfold isSh; decide
  | 1, _ => unfold isSh; decide
  | 2, _ => unfold isSh; decide
  | 3, _ => unfold isSh; decide
  | 4, _ => unfold isSh; decide
  | 5, _ => unfold isSh; decide
set_option maxRecDepth 40000 in
theorem lf_X3_11 : Cond.fieldLink "OneLeg$Law" 11 "OneLeg$Law" "steps" "[I" ∈ rfG := rf_gl 115 rfl rfl
set_option maxRecDepth 40000 in
theorem lf_X3_24 : Cond.fieldLink "OneLeg$Law" 24 "OneLeg$Law" "size" "I" ∈ rfG := rf_gl 116 rfl rfl
set_option maxRecDepth 40000 in
theorem lf_X3_15 : Cond.fieldLink "OneLeg$Law" 15 "OneLeg$Law" "stack" "[I" ∈ rfG := rf_gl 117 rfl rfl
set_option maxRecDepth 40000 in
theorem lf_X3_18 : Cond.fieldLink "OneLeg$Law" 18 "OneLeg$Law" "tape" "[I" ∈ rfG := rf_gl 118 rfl rfl
set_option maxRecDepth 40000 in
theorem lf_X3_28 : Cond.fieldLink "OneLeg$Law" 28 "OneLeg$Law" "length" "I" ∈ rfG := rf_gl 119 rfl rfl
set_option maxRecDepth 40000 in
theorem lf_X7_144 : Cond.fieldLink "OneLeg" 144 "OneLeg$Law" "length" "I" ∈ rfG := rf_gl 120 rfl rfl
set_option maxRecDepth 40000 in
theorem lf_X3_31 : Cond.fieldLink "OneLeg$Law" 31 "OneLeg$Law" "at" "I" ∈ rfG := rf_gl 121 rfl rfl
set_option maxRecDepth 40000 in
theorem lf_X3_21 : Cond.fieldLink "OneLeg$Law" 21 "OneLeg$Law" "draft" "[I" ∈ rfG := rf_gl 122 rfl rfl
set_option maxRecDepth 40000 in
theorem lf_X3_34 : Cond.fieldLink "OneLeg$Law" 34 "OneLeg$Law" "drafted" "I" ∈ rfG := rf_gl 123 rfl rfl
set_option maxRecDepth 40000 in
theorem lf_X2_34 : Cond.fieldLink "OneLeg$House" 34 "OneLeg$House" "size" "I" ∈ rfG := rf_gl 142 rfl rfl
set_option maxRecDepth 40000 in
theorem lf_X7_67 : Cond.fieldLink "OneLeg" 67 "OneLeg$House" "size" "I" ∈ rfG := rf_gl 143 rfl rfl
set_option maxRecDepth 40000 in
theorem lf_X6_35 : Cond.fieldLink "OneLeg$Thought" 35 "OneLeg$House" "size" "I" ∈ rfG := rf_gl 144 rfl rfl
set_option maxRecDepth 40000 in
theorem lf_X2_9 : Cond.fieldLink "OneLeg$House" 9 "OneLeg$House" "wants" "[I" ∈ rfG := rf_gl 145 rfl rfl
set_option maxRecDepth 40000 in
theorem lf_X7_91 : Cond.fieldLink "OneLeg" 91 "OneLeg$House" "wants" "[I" ∈ rfG := rf_gl 146 rfl rfl
set_option maxRecDepth 40000 in
theorem lf_X6_121 : Cond.fieldLink "OneLeg$Thought" 121 "OneLeg$House" "wants" "[I" ∈ rfG := rf_gl 147 rfl rfl
set_option maxRecDepth 40000 in
theorem lf_X2_15 : Cond.fieldLink "OneLeg$House" 15 "OneLeg$House" "slow" "[I" ∈ rfG := rf_gl 148 rfl rfl
set_option maxRecDepth 40000 in
theorem lf_X7_94 : Cond.fieldLink "OneLeg" 94 "OneLeg$House" "slow" "[I" ∈ rfG := rf_gl 149 rfl rfl
set_option maxRecDepth 40000 in
theorem lf_X6_127 : Cond.fieldLink "OneLeg$Thought" 127 "OneLeg$House" "slow" "[I" ∈ rfG := rf_gl 150 rfl rfl
set_option maxRecDepth 40000 in
theorem lf_X2_18 : Cond.fieldLink "OneLeg$House" 18 "OneLeg$House" "kinds" "[I" ∈ rfG := rf_gl 151 rfl rfl
set_option maxRecDepth 40000 in
theorem lf_X7_128 : Cond.fieldLink "OneLeg" 128 "OneLeg$House" "kinds" "[I" ∈ rfG := rf_gl 152 rfl rfl
set_option maxRecDepth 40000 in
theorem lf_X2_21 : Cond.fieldLink "OneLeg$House" 21 "OneLeg$House" "facts" "[I" ∈ rfG := rf_gl 153 rfl rfl
set_option maxRecDepth 40000 in
theorem lf_X7_131 : Cond.fieldLink "OneLeg" 131 "OneLeg$House" "facts" "[I" ∈ rfG := rf_gl 154 rfl rfl
set_option maxRecDepth 40000 in
theorem lf_X2_27 : Cond.fieldLink "OneLeg$House" 27 "OneLeg$House" "law" "LOneLeg$Law;" ∈ rfG := rf_gl 155 rfl rfl
set_option maxRecDepth 40000 in
theorem lf_X7_140 : Cond.fieldLink "OneLeg" 140 "OneLeg$House" "law" "LOneLeg$Law;" ∈ rfG := rf_gl 156 rfl rfl
set_option maxRecDepth 40000 in
theorem lf_X2_31 : Cond.fieldLink "OneLeg$House" 31 "OneLeg$House" "named" "[I" ∈ rfG := rf_gl 157 rfl rfl
set_option maxRecDepth 40000 in
theorem lf_X5_9 : Cond.fieldLink "OneLeg$Standing" 9 "OneLeg$Standing" "owed" "[I" ∈ rfG := rf_gl 179 rfl rfl
set_option maxRecDepth 40000 in
theorem lf_X2_49 : Cond.fieldLink "OneLeg$House" 49 "OneLeg$Standing" "owed" "[I" ∈ rfG := rf_gl 180 rfl rfl
set_option maxRecDepth 40000 in
theorem lf_X7_97 : Cond.fieldLink "OneLeg" 97 "OneLeg$Standing" "owed" "[I" ∈ rfG := rf_gl 181 rfl rfl
set_option maxRecDepth 40000 in
theorem lf_X5_15 : Cond.fieldLink "OneLeg$Standing" 15 "OneLeg$Standing" "knows" "[I" ∈ rfG := rf_gl 182 rfl rfl
set_option maxRecDepth 40000 in
theorem lf_X2_55 : Cond.fieldLink "OneLeg$House" 55 "OneLeg$Standing" "knows" "[I" ∈ rfG := rf_gl 183 rfl rfl
set_option maxRecDepth 40000 in
theorem lf_X7_100 : Cond.fieldLink "OneLeg" 100 "OneLeg$Standing" "knows" "[I" ∈ rfG := rf_gl 184 rfl rfl
set_option maxRecDepth 40000 in
theorem lf_X5_24 : Cond.fieldLink "OneLeg$Standing" 24 "OneLeg$Standing" "worn" "I" ∈ rfG := rf_gl 185 rfl rfl
set_option maxRecDepth 40000 in
theorem lf_X2_52 : Cond.fieldLink "OneLeg$House" 52 "OneLeg$Standing" "worn" "I" ∈ rfG := rf_gl 186 rfl rfl
set_option maxRecDepth 40000 in
theorem lf_X7_134 : Cond.fieldLink "OneLeg" 134 "OneLeg$Standing" "worn" "I" ∈ rfG := rf_gl 187 rfl rfl
set_option maxRecDepth 40000 in
theorem lf_X5_28 : Cond.fieldLink "OneLeg$Standing" 28 "OneLeg$Standing" "today" "I" ∈ rfG := rf_gl 188 rfl rfl
set_option maxRecDepth 40000 in
theorem lf_X2_40 : Cond.fieldLink "OneLeg$House" 40 "OneLeg$Standing" "today" "I" ∈ rfG := rf_gl 189 rfl rfl
set_option maxRecDepth 40000 in
theorem lf_X7_137 : Cond.fieldLink "OneLeg" 137 "OneLeg$Standing" "today" "I" ∈ rfG := rf_gl 190 rfl rfl
set_option maxRecDepth 40000 in
theorem lf_X6_81 : Cond.fieldLink "OneLeg$Thought" 81 "OneLeg$Thought" "bestDone" "I" ∈ rfG := rf_gl 209 rfl rfl
set_option maxRecDepth 40000 in
theorem lf_X7_187 : Cond.fieldLink "OneLeg" 187 "OneLeg$Thought" "bestDone" "I" ∈ rfG := rf_gl 210 rfl rfl
set_option maxRecDepth 40000 in
theorem lf_X6_84 : Cond.fieldLink "OneLeg$Thought" 84 "OneLeg$Thought" "bestOwed" "I" ∈ rfG := rf_gl 211 rfl rfl
set_option maxRecDepth 40000 in
theorem lf_X7_190 : Cond.fieldLink "OneLeg" 190 "OneLeg$Thought" "bestOwed" "I" ∈ rfG := rf_gl 212 rfl rfl
set_option maxRecDepth 40000 in
theorem lf_X6_9 : Cond.fieldLink "OneLeg$Thought" 9 "OneLeg$Thought" "bestRota" "[I" ∈ rfG := rf_gl 213 rfl rfl
set_option maxRecDepth 40000 in
theorem lf_X7_193 : Cond.fieldLink "OneLeg" 193 "OneLeg$Thought" "bestRota" "[I" ∈ rfG := rf_gl 214 rfl rfl
set_option maxRecDepth 40000 in
theorem lf_X6_101 : Cond.fieldLink "OneLeg$Thought" 101 "OneLeg$Thought" "isTakenFirst" "Z" ∈ rfG := rf_gl 215 rfl rfl
set_option maxRecDepth 40000 in
theorem lf_X7_251 : Cond.fieldLink "OneLeg" 251 "OneLeg$Thought" "isTakenFirst" "Z" ∈ rfG := rf_gl 216 rfl rfl
set_option maxRecDepth 40000 in
theorem lf_X6_30 : Cond.fieldLink "OneLeg$Thought" 30 "OneLeg$Thought" "house" "LOneLeg$House;" ∈ rfG := rf_gl 217 rfl rfl
set_option maxRecDepth 40000 in
theorem lf_X6_17 : Cond.fieldLink "OneLeg$Thought" 17 "OneLeg$Thought" "steps" "[LOneLeg$Standing;" ∈ rfG := rf_gl 218 rfl rfl
set_option maxRecDepth 40000 in
theorem lf_X6_21 : Cond.fieldLink "OneLeg$Thought" 21 "OneLeg$Thought" "rota" "[I" ∈ rfG := rf_gl 219 rfl rfl
set_option maxRecDepth 40000 in
theorem lf_X6_65 : Cond.fieldLink "OneLeg$Thought" 65 "OneLeg$Thought" "hasBest" "Z" ∈ rfG := rf_gl 220 rfl rfl
set_option maxRecDepth 40000 in
theorem lf_X6_24 : Cond.fieldLink "OneLeg$Thought" 24 "OneLeg$Thought" "mostDealt" "[I" ∈ rfG := rf_gl 221 rfl rfl
set_option maxRecDepth 40000 in
theorem lf_X6_27 : Cond.fieldLink "OneLeg$Thought" 27 "OneLeg$Thought" "bySlow" "[I" ∈ rfG := rf_gl 222 rfl rfl
set_option maxRecDepth 40000 in
theorem lf_X1_9 : Cond.fieldLink "OneLeg$Changes" 9 "OneLeg$Changes" "numbers" "[I" ∈ rfG := rf_gl 250 rfl rfl
set_option maxRecDepth 40000 in
theorem lf_X7_287 : Cond.fieldLink "OneLeg" 287 "OneLeg$Changes" "numbers" "[I" ∈ rfG := rf_gl 251 rfl rfl
set_option maxRecDepth 40000 in
theorem lf_X1_15 : Cond.fieldLink "OneLeg$Changes" 15 "OneLeg$Changes" "whats" "[I" ∈ rfG := rf_gl 252 rfl rfl
set_option maxRecDepth 40000 in
theorem lf_X7_290 : Cond.fieldLink "OneLeg" 290 "OneLeg$Changes" "whats" "[I" ∈ rfG := rf_gl 253 rfl rfl
set_option maxRecDepth 40000 in
theorem lf_X1_18 : Cond.fieldLink "OneLeg$Changes" 18 "OneLeg$Changes" "before" "[I" ∈ rfG := rf_gl 254 rfl rfl
set_option maxRecDepth 40000 in
theorem lf_X7_293 : Cond.fieldLink "OneLeg" 293 "OneLeg$Changes" "before" "[I" ∈ rfG := rf_gl 255 rfl rfl
set_option maxRecDepth 40000 in
theorem lf_X1_21 : Cond.fieldLink "OneLeg$Changes" 21 "OneLeg$Changes" "after" "[I" ∈ rfG := rf_gl 256 rfl rfl
set_option maxRecDepth 40000 in
theorem lf_X7_299 : Cond.fieldLink "OneLeg" 299 "OneLeg$Changes" "after" "[I" ∈ rfG := rf_gl 257 rfl rfl
set_option maxRecDepth 40000 in
theorem lf_X1_24 : Cond.fieldLink "OneLeg$Changes" 24 "OneLeg$Changes" "done" "I" ∈ rfG := rf_gl 258 rfl rfl
set_option maxRecDepth 40000 in
theorem lf_X7_284 : Cond.fieldLink "OneLeg" 284 "OneLeg$Changes" "done" "I" ∈ rfG := rf_gl 259 rfl rfl
set_option maxRecDepth 40000 in
theorem lf_X1_31 : Cond.fieldLink "OneLeg$Changes" 31 "OneLeg$Changes" "kept" "I" ∈ rfG := rf_gl 260 rfl rfl
set_option maxRecDepth 40000 in
theorem lf_X7_296 : Cond.fieldLink "OneLeg" 296 "OneLeg$Changes" "kept" "I" ∈ rfG := rf_gl 261 rfl rfl
set_option maxRecDepth 40000 in
theorem lf_X0_9 : Cond.fieldLink "OneLeg$Boots" 9 "OneLeg$Boots" "kinds" "[I" ∈ rfG := rf_gl 281 rfl rfl
set_option maxRecDepth 40000 in
theorem lf_X7_311 : Cond.fieldLink "OneLeg" 311 "OneLeg$Boots" "kinds" "[I" ∈ rfG := rf_gl 282 rfl rfl
set_option maxRecDepth 40000 in
theorem lf_X0_16 : Cond.fieldLink "OneLeg$Boots" 16 "OneLeg$Boots" "size" "I" ∈ rfG := rf_gl 283 rfl rfl
set_option maxRecDepth 40000 in
theorem lf_X7_302 : Cond.fieldLink "OneLeg" 302 "OneLeg$Boots" "size" "I" ∈ rfG := rf_gl 284 rfl rfl
set_option maxRecDepth 40000 in
theorem lf_X0_13 : Cond.fieldLink "OneLeg$Boots" 13 "OneLeg$Boots" "traced" "[I" ∈ rfG := rf_gl 285 rfl rfl
set_option maxRecDepth 40000 in
theorem lf_X7_315 : Cond.fieldLink "OneLeg" 315 "OneLeg$Boots" "traced" "[I" ∈ rfG := rf_gl 286 rfl rfl
set_option maxRecDepth 40000 in
theorem lf_X0_38 : Cond.fieldLink "OneLeg$Boots" 38 "OneLeg$Boots" "ran" "I" ∈ rfG := rf_gl 287 rfl rfl
set_option maxRecDepth 40000 in
theorem lf_X7_305 : Cond.fieldLink "OneLeg" 305 "OneLeg$Boots" "ran" "I" ∈ rfG := rf_gl 288 rfl rfl
set_option maxRecDepth 40000 in
theorem lf_X4_11 : Cond.fieldLink "OneLeg$Shelf" 11 "OneLeg$Shelf" "holds" "I" ∈ rfG := rf_gl 305 rfl rfl
set_option maxRecDepth 40000 in
theorem lf_X7_79 : Cond.fieldLink "OneLeg" 79 "OneLeg$Shelf" "holds" "I" ∈ rfG := rf_gl 306 rfl rfl
set_option maxRecDepth 40000 in
theorem lf_X7_318 : Cond.fieldLink "OneLeg" 318 "OneLeg$Shelf" "boot" "I" ∈ rfG := rf_gl 307 rfl rfl
set_option maxRecDepth 40000 in
theorem lf_X4_19 : Cond.fieldLink "OneLeg$Shelf" 19 "OneLeg$Shelf" "size" "I" ∈ rfG := rf_gl 308 rfl rfl
set_option maxRecDepth 40000 in
theorem lf_X7_86 : Cond.fieldLink "OneLeg" 86 "OneLeg$Shelf" "size" "I" ∈ rfG := rf_gl 309 rfl rfl
set_option maxRecDepth 40000 in
theorem lf_X2_89 : Cond.fieldLink "OneLeg$House" 89 "OneLeg$Shelf" "size" "I" ∈ rfG := rf_gl 310 rfl rfl
set_option maxRecDepth 40000 in
theorem lf_X4_15 : Cond.fieldLink "OneLeg$Shelf" 15 "OneLeg$Shelf" "elements" "[J" ∈ rfG := rf_gl 311 rfl rfl
set_option maxRecDepth 40000 in
theorem lf_X6_55 : Cond.fieldLink "OneLeg$Thought" 55 "OneLeg$Shelf" "elements" "[J" ∈ rfG := rf_gl 312 rfl rfl
set_option maxRecDepth 40000 in
theorem lf_X7_87 : Cond.fieldLink "OneLeg" 87 "OneLeg$Shelf" "elements" "[J" ∈ rfG := rf_gl 313 rfl rfl
set_option maxRecDepth 40000 in
theorem lf_X2_92 : Cond.fieldLink "OneLeg$House" 92 "OneLeg$Shelf" "elements" "[J" ∈ rfG := rf_gl 314 rfl rfl
set_option maxRecDepth 40000 in
theorem lf_X7_10 : Cond.fieldLink "OneLeg" 10 "OneLeg" "house" "LOneLeg$House;" ∈ rfG := rf_gl 325 rfl rfl
set_option maxRecDepth 40000 in
theorem lf_X7_19 : Cond.fieldLink "OneLeg" 19 "OneLeg" "now" "LOneLeg$Standing;" ∈ rfG := rf_gl 326 rfl rfl
set_option maxRecDepth 40000 in
theorem lf_X7_23 : Cond.fieldLink "OneLeg" 23 "OneLeg" "led" "[I" ∈ rfG := rf_gl 327 rfl rfl
set_option maxRecDepth 40000 in
theorem lf_X7_27 : Cond.fieldLink "OneLeg" 27 "OneLeg" "imaged" "LOneLeg$Standing;" ∈ rfG := rf_gl 328 rfl rfl
set_option maxRecDepth 40000 in
theorem lf_X7_30 : Cond.fieldLink "OneLeg" 30 "OneLeg" "imagedLed" "[I" ∈ rfG := rf_gl 329 rfl rfl
set_option maxRecDepth 40000 in
theorem lf_X7_269 : Cond.fieldLink "OneLeg" 269 "OneLeg" "imagedBrothers" "I" ∈ rfG := rf_gl 330 rfl rfl
set_option maxRecDepth 40000 in
theorem lf_X7_281 : Cond.fieldLink "OneLeg" 281 "OneLeg" "hasImage" "Z" ∈ rfG := rf_gl 331 rfl rfl
set_option maxRecDepth 40000 in
theorem lf_X7_38 : Cond.fieldLink "OneLeg" 38 "OneLeg" "thought" "LOneLeg$Thought;" ∈ rfG := rf_gl 332 rfl rfl
set_option maxRecDepth 40000 in
theorem lf_X7_45 : Cond.fieldLink "OneLeg" 45 "OneLeg" "changes" "LOneLeg$Changes;" ∈ rfG := rf_gl 333 rfl rfl
set_option maxRecDepth 40000 in
theorem lf_X7_52 : Cond.fieldLink "OneLeg" 52 "OneLeg" "boots" "LOneLeg$Boots;" ∈ rfG := rf_gl 334 rfl rfl
set_option maxRecDepth 40000 in
theorem lf_X7_58 : Cond.fieldLink "OneLeg" 58 "OneLeg" "shelves" "[LOneLeg$Shelf;" ∈ rfG := rf_gl 335 rfl rfl
set_option maxRecDepth 40000 in
theorem lm_X7_63 : Cond.methodLink "OneLeg" 63 ⟨"OneLeg", "isWithin", "(III)Z"⟩ ∈ rfG := rf_gl 363 rfl rfl
set_option maxRecDepth 40000 in
theorem lm_X7_71 : Cond.methodLink "OneLeg" 71 ⟨"OneLeg", "welcome", "(III)I"⟩ ∈ rfG := rf_gl 366 rfl rfl
set_option maxRecDepth 40000 in
theorem lm_X7_75 : Cond.methodLink "OneLeg" 75 ⟨"OneLeg", "isShelf", "(I)Z"⟩ ∈ rfG := rf_gl 374 rfl rfl
set_option maxRecDepth 40000 in
theorem lm_X7_82 : Cond.methodLink "OneLeg" 82 ⟨"OneLeg", "comesFrom", "(LOneLeg$Shelf;I)Z"⟩ ∈ rfG := rf_gl 377 rfl rfl
set_option maxRecDepth 40000 in
theorem lm_X7_103 : Cond.methodLink "OneLeg" 103 ⟨"OneLeg", "isNumber", "(II)Z"⟩ ∈ rfG := rf_gl 385 rfl rfl
set_option maxRecDepth 40000 in
theorem lm_X7_125 : Cond.methodLink "OneLeg" 125 ⟨"OneLeg$House", "isOne", "(I)Z"⟩ ∈ rfG := rf_gl 389 rfl rfl
set_option maxRecDepth 40000 in
theorem lf_X7_107 : Cond.fieldLink "OneLeg" 107 "OneLeg" "LEAST_OF" "[I" ∈ rfG := rf_gl 393 rfl rfl
set_option maxRecDepth 40000 in
theorem lf_X7_110 : Cond.fieldLink "OneLeg" 110 "OneLeg" "MOST_OF" "[I" ∈ rfG := rf_gl 395 rfl rfl
set_option maxRecDepth 40000 in
theorem lm_X7_113 : Cond.methodLink "OneLeg" 113 ⟨"OneLeg", "numberOf", "(II)I"⟩ ∈ rfG := rf_gl 397 rfl rfl
set_option maxRecDepth 40000 in
theorem lm_X7_117 : Cond.methodLink "OneLeg" 117 ⟨"OneLeg$Changes", "add", "(IIII)V"⟩ ∈ rfG := rf_gl 401 rfl rfl
set_option maxRecDepth 40000 in
theorem lm_X1_28 : Cond.methodLink "OneLeg$Changes" 28 ⟨"OneLeg$Changes", "dropOldest", "()V"⟩ ∈ rfG := rf_gl 405 rfl rfl
set_option maxRecDepth 40000 in
theorem lm_X1_34 : Cond.methodLink "OneLeg$Changes" 34 ⟨"java/lang/System", "arraycopy", "(Ljava/lang/Object;ILjava/lang/Object;II)V"⟩ ∈ rfG := rf_gl 409 rfl rfl
set_option maxRecDepth 40000 in
theorem lm_X7_121 : Cond.methodLink "OneLeg" 121 ⟨"OneLeg", "become", "(III)V"⟩ ∈ rfG := rf_gl 412 rfl rfl
set_option maxRecDepth 40000 in
theorem lm_X7_149 : Cond.methodLink "OneLeg" 149 ⟨"OneLeg$Law", "write", "(I)I"⟩ ∈ rfG := rf_gl 424 rfl rfl
set_option maxRecDepth 40000 in
theorem lm_X7_153 : Cond.methodLink "OneLeg" 153 ⟨"OneLeg$Law", "read", "()I"⟩ ∈ rfG := rf_gl 432 rfl rfl
set_option maxRecDepth 40000 in
theorem lm_X3_37 : Cond.methodLink "OneLeg$Law" 37 ⟨"OneLeg$Law", "readLines", "()Z"⟩ ∈ rfG := rf_gl 436 rfl rfl
set_option maxRecDepth 40000 in
theorem lm_X3_47 : Cond.methodLink "OneLeg$Law" 47 ⟨"OneLeg$Law", "readLine", "()Z"⟩ ∈ rfG := rf_gl 440 rfl rfl
set_option maxRecDepth 40000 in
theorem lm_X3_58 : Cond.methodLink "OneLeg$Law" 58 ⟨"OneLeg$Law", "readChain", "(II)Z"⟩ ∈ rfG := rf_gl 444 rfl rfl
set_option maxRecDepth 40000 in
theorem lm_X3_62 : Cond.methodLink "OneLeg$Law" 62 ⟨"OneLeg$Law", "readOperand", "(I)Z"⟩ ∈ rfG := rf_gl 448 rfl rfl
set_option maxRecDepth 40000 in
theorem lm_X3_65 : Cond.methodLink "OneLeg$Law" 65 ⟨"OneLeg$Law", "sign", "()I"⟩ ∈ rfG := rf_gl 452 rfl rfl
set_option maxRecDepth 40000 in
theorem lm_X3_73 : Cond.methodLink "OneLeg$Law" 73 ⟨"OneLeg$Law", "isDigit", "(I)Z"⟩ ∈ rfG := rf_gl 456 rfl rfl
set_option maxRecDepth 40000 in
theorem lm_X3_76 : Cond.methodLink "OneLeg$Law" 76 ⟨"OneLeg$Law", "readNumber", "()V"⟩ ∈ rfG := rf_gl 459 rfl rfl
set_option maxRecDepth 40000 in
theorem lm_X3_50 : Cond.methodLink "OneLeg$Law" 50 ⟨"OneLeg$Law", "addStep", "(I)V"⟩ ∈ rfG := rf_gl 463 rfl rfl
set_option maxRecDepth 40000 in
theorem lm_X3_79 : Cond.methodLink "OneLeg$Law" 79 ⟨"OneLeg$Law", "nameOf", "(I)I"⟩ ∈ rfG := rf_gl 467 rfl rfl
set_option maxRecDepth 40000 in
theorem lm_X3_54 : Cond.methodLink "OneLeg$Law" 54 ⟨"OneLeg$Law", "isAccepted", "(I)Z"⟩ ∈ rfG := rf_gl 470 rfl rfl
set_option maxRecDepth 40000 in
theorem lm_X3_69 : Cond.methodLink "OneLeg$Law" 69 ⟨"OneLeg$Law", "levelOf", "(I)I"⟩ ∈ rfG := rf_gl 474 rfl rfl
set_option maxRecDepth 40000 in
theorem lm_X3_41 : Cond.methodLink "OneLeg$Law" 41 ⟨"java/lang/System", "arraycopy", "(Ljava/lang/Object;ILjava/lang/Object;II)V"⟩ ∈ rfG := rf_gl 477 rfl rfl
set_option maxRecDepth 40000 in
theorem lm_X7_157 : Cond.methodLink "OneLeg" 157 ⟨"OneLeg$House", "doneBy", "(LOneLeg$Standing;I)I"⟩ ∈ rfG := rf_gl 482 rfl rfl
set_option maxRecDepth 40000 in
theorem lm_X2_45 : Cond.methodLink "OneLeg$House" 45 ⟨"OneLeg$Law", "isWritten", "()Z"⟩ ∈ rfG := rf_gl 486 rfl rfl
set_option maxRecDepth 40000 in
theorem lm_X2_58 : Cond.methodLink "OneLeg$House" 58 ⟨"java/lang/Integer", "bitCount", "(I)I"⟩ ∈ rfG := rf_gl 490 rfl rfl
set_option maxRecDepth 40000 in
theorem lc_J6_265 : Cond.constant "java/lang/Integer" 265 (1431655765 : Int32) ∈ rfG := rf_gl 493 rfl rfl
set_option maxRecDepth 40000 in
theorem lc_J6_266 : Cond.constant "java/lang/Integer" 266 (858993459 : Int32) ∈ rfG := rf_gl 494 rfl rfl
set_option maxRecDepth 40000 in
theorem lc_J6_267 : Cond.constant "java/lang/Integer" 267 (252645135 : Int32) ∈ rfG := rf_gl 495 rfl rfl
set_option maxRecDepth 40000 in
theorem lm_X2_64 : Cond.methodLink "OneLeg$House" 64 ⟨"OneLeg$Law", "workOut", "([I)I"⟩ ∈ rfG := rf_gl 496 rfl rfl
set_option maxRecDepth 40000 in
theorem lm_X3_82 : Cond.methodLink "OneLeg$Law" 82 ⟨"OneLeg$Law", "endOfLine", "(I)I"⟩ ∈ rfG := rf_gl 500 rfl rfl
set_option maxRecDepth 40000 in
theorem lm_X3_85 : Cond.methodLink "OneLeg$Law" 85 ⟨"OneLeg$Law", "joined", "(III)I"⟩ ∈ rfG := rf_gl 504 rfl rfl
set_option maxRecDepth 40000 in
theorem lm_X2_68 : Cond.methodLink "OneLeg$House" 68 ⟨"java/lang/Math", "min", "(II)I"⟩ ∈ rfG := rf_gl 507 rfl rfl
set_option maxRecDepth 40000 in
theorem lm_X2_74 : Cond.methodLink "OneLeg$House" 74 ⟨"java/lang/Math", "max", "(II)I"⟩ ∈ rfG := rf_gl 510 rfl rfl
set_option maxRecDepth 40000 in
theorem lm_X7_161 : Cond.methodLink "OneLeg" 161 ⟨"OneLeg$Shelf", "refusalFor", "(I)I"⟩ ∈ rfG := rf_gl 517 rfl rfl
set_option maxRecDepth 40000 in
theorem lm_X7_164 : Cond.methodLink "OneLeg" 164 ⟨"OneLeg$Thought", "follow", "(LOneLeg$Standing;LOneLeg$Shelf;I)I"⟩ ∈ rfG := rf_gl 521 rfl rfl
set_option maxRecDepth 40000 in
theorem lm_X6_41 : Cond.methodLink "OneLeg$Thought" 41 ⟨"OneLeg$Standing", "copyFrom", "(LOneLeg$Standing;I)V"⟩ ∈ rfG := rf_gl 525 rfl rfl
set_option maxRecDepth 40000 in
theorem lm_X5_18 : Cond.methodLink "OneLeg$Standing" 18 ⟨"java/lang/System", "arraycopy", "(Ljava/lang/Object;ILjava/lang/Object;II)V"⟩ ∈ rfG := rf_gl 529 rfl rfl
set_option maxRecDepth 40000 in
theorem lm_X6_45 : Cond.methodLink "OneLeg$Thought" 45 ⟨"OneLeg$House", "daysOf", "(LOneLeg$Shelf;)I"⟩ ∈ rfG := rf_gl 530 rfl rfl
set_option maxRecDepth 40000 in
theorem lm_X2_96 : Cond.methodLink "OneLeg$House" 96 ⟨"OneLeg$House", "mayHave", "(J)Z"⟩ ∈ rfG := rf_gl 534 rfl rfl
set_option maxRecDepth 40000 in
theorem lc_X2_38 : Cond.constantLong "OneLeg$House" 38 (7 : Int64) ∈ rfG := rf_gl 538 rfl rfl
set_option maxRecDepth 40000 in
theorem lm_X6_49 : Cond.methodLink "OneLeg$Thought" 49 ⟨"java/lang/Math", "min", "(II)I"⟩ ∈ rfG := rf_gl 539 rfl rfl
set_option maxRecDepth 40000 in
theorem lm_X6_61 : Cond.methodLink "OneLeg$Thought" 61 ⟨"OneLeg$House", "pass", "(LOneLeg$Standing;I)I"⟩ ∈ rfG := rf_gl 540 rfl rfl
set_option maxRecDepth 40000 in
theorem lm_X2_77 : Cond.methodLink "OneLeg$House" 77 ⟨"OneLeg$House", "isOne", "(I)Z"⟩ ∈ rfG := rf_gl 544 rfl rfl
set_option maxRecDepth 40000 in
theorem lm_X2_81 : Cond.methodLink "OneLeg$House" 81 ⟨"OneLeg$House", "doneBy", "(LOneLeg$Standing;I)I"⟩ ∈ rfG := rf_gl 545 rfl rfl
set_option maxRecDepth 40000 in
theorem lm_X2_85 : Cond.methodLink "OneLeg$House" 85 ⟨"OneLeg$House", "owedBehind", "(IIIII)I"⟩ ∈ rfG := rf_gl 546 rfl rfl
set_option maxRecDepth 40000 in
theorem lm_X7_168 : Cond.methodLink "OneLeg" 168 ⟨"OneLeg$Thought", "latest", "()LOneLeg$Standing;"⟩ ∈ rfG := rf_gl 550 rfl rfl
set_option maxRecDepth 40000 in
theorem lm_X7_172 : Cond.methodLink "OneLeg" 172 ⟨"OneLeg$Standing", "owedOfAll", "(I)I"⟩ ∈ rfG := rf_gl 554 rfl rfl
set_option maxRecDepth 40000 in
theorem lm_X7_175 : Cond.methodLink "OneLeg" 175 ⟨"OneLeg$House", "daysOf", "(LOneLeg$Shelf;)I"⟩ ∈ rfG := rf_gl 562 rfl rfl
set_option maxRecDepth 40000 in
theorem lm_X7_179 : Cond.methodLink "OneLeg" 179 ⟨"OneLeg$House", "owedBehind", "(IIIII)I"⟩ ∈ rfG := rf_gl 563 rfl rfl
set_option maxRecDepth 40000 in
theorem lm_X7_183 : Cond.methodLink "OneLeg" 183 ⟨"OneLeg$Thought", "seekBest", "(LOneLeg$Standing;I)V"⟩ ∈ rfG := rf_gl 568 rfl rfl
set_option maxRecDepth 40000 in
theorem lm_X6_69 : Cond.methodLink "OneLeg$Thought" 69 ⟨"OneLeg$Thought", "seekFrom", "(III)V"⟩ ∈ rfG := rf_gl 572 rfl rfl
set_option maxRecDepth 40000 in
theorem lm_X6_73 : Cond.methodLink "OneLeg$Thought" 73 ⟨"OneLeg$Thought", "weigh", "(II)V"⟩ ∈ rfG := rf_gl 576 rfl rfl
set_option maxRecDepth 40000 in
theorem lm_X6_77 : Cond.methodLink "OneLeg$Thought" 77 ⟨"OneLeg$Standing", "owedOfAll", "(I)I"⟩ ∈ rfG := rf_gl 580 rfl rfl
set_option maxRecDepth 40000 in
theorem lm_X6_87 : Cond.methodLink "OneLeg$Thought" 87 ⟨"java/lang/System", "arraycopy", "(Ljava/lang/Object;ILjava/lang/Object;II)V"⟩ ∈ rfG := rf_gl 581 rfl rfl
set_option maxRecDepth 40000 in
theorem lm_X7_196 : Cond.methodLink "OneLeg" 196 ⟨"OneLeg", "knownByGroup", "(I)I"⟩ ∈ rfG := rf_gl 586 rfl rfl
set_option maxRecDepth 40000 in
theorem lm_X7_199 : Cond.methodLink "OneLeg" 199 ⟨"OneLeg", "fewer", "(II)I"⟩ ∈ rfG := rf_gl 590 rfl rfl
set_option maxRecDepth 40000 in
theorem lm_X7_214 : Cond.methodLink "OneLeg" 214 ⟨"java/lang/Integer", "bitCount", "(I)I"⟩ ∈ rfG := rf_gl 593 rfl rfl
set_option maxRecDepth 40000 in
theorem lm_X7_202 : Cond.methodLink "OneLeg" 202 ⟨"OneLeg", "manyOrWhich", "(II)I"⟩ ∈ rfG := rf_gl 594 rfl rfl
set_option maxRecDepth 40000 in
theorem lm_X7_205 : Cond.methodLink "OneLeg" 205 ⟨"OneLeg", "fewestApart", "()I"⟩ ∈ rfG := rf_gl 601 rfl rfl
set_option maxRecDepth 40000 in
theorem lm_X7_211 : Cond.methodLink "OneLeg" 211 ⟨"OneLeg", "areToldApart", "(I)Z"⟩ ∈ rfG := rf_gl 605 rfl rfl
set_option maxRecDepth 40000 in
theorem lm_X7_208 : Cond.methodLink "OneLeg" 208 ⟨"OneLeg", "knownByAll", "()I"⟩ ∈ rfG := rf_gl 609 rfl rfl
set_option maxRecDepth 40000 in
theorem lm_X7_219 : Cond.methodLink "OneLeg" 219 ⟨"OneLeg$Thought", "dealt", "(I)I"⟩ ∈ rfG := rf_gl 617 rfl rfl
set_option maxRecDepth 40000 in
theorem lm_X6_111 : Cond.methodLink "OneLeg$Thought" 111 ⟨"OneLeg$Thought", "holderOf", "(II)I"⟩ ∈ rfG := rf_gl 621 rfl rfl
set_option maxRecDepth 40000 in
theorem lm_X6_114 : Cond.methodLink "OneLeg$Thought" 114 ⟨"OneLeg$Thought", "dealtBy", "(III)I"⟩ ∈ rfG := rf_gl 625 rfl rfl
set_option maxRecDepth 40000 in
theorem lm_X6_118 : Cond.methodLink "OneLeg$Thought" 118 ⟨"OneLeg$Thought", "groupOf", "(I)I"⟩ ∈ rfG := rf_gl 629 rfl rfl
set_option maxRecDepth 40000 in
theorem lm_X7_222 : Cond.methodLink "OneLeg" 222 ⟨"OneLeg$Thought", "minutesOut", "()I"⟩ ∈ rfG := rf_gl 636 rfl rfl
set_option maxRecDepth 40000 in
theorem lm_X6_124 : Cond.methodLink "OneLeg$Thought" 124 ⟨"OneLeg$Thought", "sortBySlow", "()V"⟩ ∈ rfG := rf_gl 640 rfl rfl
set_option maxRecDepth 40000 in
theorem lm_X7_225 : Cond.methodLink "OneLeg" 225 ⟨"OneLeg", "firstOut", "()I"⟩ ∈ rfG := rf_gl 644 rfl rfl
set_option maxRecDepth 40000 in
theorem lm_X7_228 : Cond.methodLink "OneLeg" 228 ⟨"java/lang/Math", "min", "(II)I"⟩ ∈ rfG := rf_gl 648 rfl rfl
set_option maxRecDepth 40000 in
theorem lm_X7_233 : Cond.methodLink "OneLeg" 233 ⟨"OneLeg", "areShelves", "(I)Z"⟩ ∈ rfG := rf_gl 653 rfl rfl
set_option maxRecDepth 40000 in
theorem lm_X7_236 : Cond.methodLink "OneLeg" 236 ⟨"OneLeg", "refusalOfDebts", "(I)I"⟩ ∈ rfG := rf_gl 657 rfl rfl
set_option maxRecDepth 40000 in
theorem lm_X7_239 : Cond.methodLink "OneLeg" 239 ⟨"OneLeg", "firstNotSo", "(IIII)I"⟩ ∈ rfG := rf_gl 661 rfl rfl
set_option maxRecDepth 40000 in
theorem lm_X7_243 : Cond.methodLink "OneLeg" 243 ⟨"OneLeg", "areBrothers", "(I)Z"⟩ ∈ rfG := rf_gl 669 rfl rfl
set_option maxRecDepth 40000 in
theorem lc_X7_246 : Cond.constant "OneLeg" 246 (-2000000000 : Int32) ∈ rfG := rf_gl 677 rfl rfl
set_option maxRecDepth 40000 in
theorem lm_X7_247 : Cond.methodLink "OneLeg" 247 ⟨"OneLeg$Thought", "worthOfTurns", "(LOneLeg$Standing;III)I"⟩ ∈ rfG := rf_gl 678 rfl rfl
set_option maxRecDepth 40000 in
theorem lm_X6_93 : Cond.methodLink "OneLeg$Thought" 93 ⟨"OneLeg$Thought", "worthFrom", "(IIII)I"⟩ ∈ rfG := rf_gl 682 rfl rfl
set_option maxRecDepth 40000 in
theorem lm_X6_97 : Cond.methodLink "OneLeg$Thought" 97 ⟨"OneLeg$Thought", "worthBehind", "(IIIII)I"⟩ ∈ rfG := rf_gl 686 rfl rfl
set_option maxRecDepth 40000 in
theorem lm_X6_104 : Cond.methodLink "OneLeg$Thought" 104 ⟨"java/lang/Math", "max", "(II)I"⟩ ∈ rfG := rf_gl 690 rfl rfl
set_option maxRecDepth 40000 in
theorem lm_X7_255 : Cond.methodLink "OneLeg" 255 ⟨"OneLeg$Thought", "draw", "(LOneLeg$Standing;IIIII)I"⟩ ∈ rfG := rf_gl 695 rfl rfl
set_option maxRecDepth 40000 in
theorem lc_X6_107 : Cond.constant "OneLeg$Thought" 107 (1103515245 : Int32) ∈ rfG := rf_gl 699 rfl rfl
set_option maxRecDepth 40000 in
theorem lm_X6_108 : Cond.methodLink "OneLeg$Thought" 108 ⟨"OneLeg$Thought", "drawnBy", "(II)I"⟩ ∈ rfG := rf_gl 700 rfl rfl
set_option maxRecDepth 40000 in
theorem lm_X7_259 : Cond.methodLink "OneLeg" 259 ⟨"OneLeg$House", "mayHave", "(J)Z"⟩ ∈ rfG := rf_gl 708 rfl rfl
set_option maxRecDepth 40000 in
theorem lm_X7_263 : Cond.methodLink "OneLeg" 263 ⟨"OneLeg$House", "pass", "(LOneLeg$Standing;I)I"⟩ ∈ rfG := rf_gl 709 rfl rfl
set_option maxRecDepth 40000 in
theorem lm_X7_266 : Cond.methodLink "OneLeg" 266 ⟨"OneLeg", "areTwo", "(II)Z"⟩ ∈ rfG := rf_gl 714 rfl rfl
set_option maxRecDepth 40000 in
theorem lm_X7_272 : Cond.methodLink "OneLeg" 272 ⟨"OneLeg$Standing", "copyFrom", "(LOneLeg$Standing;I)V"⟩ ∈ rfG := rf_gl 734 rfl rfl
set_option maxRecDepth 40000 in
theorem lm_X7_275 : Cond.methodLink "OneLeg" 275 ⟨"java/lang/System", "arraycopy", "(Ljava/lang/Object;ILjava/lang/Object;II)V"⟩ ∈ rfG := rf_gl 735 rfl rfl
set_option maxRecDepth 40000 in
theorem lm_X7_303 : Cond.methodLink "OneLeg" 303 ⟨"OneLeg$Boots", "add", "(I)I"⟩ ∈ rfG := rf_gl 752 rfl rfl
set_option maxRecDepth 40000 in
theorem lm_X7_308 : Cond.methodLink "OneLeg" 308 ⟨"OneLeg", "isBody", "(I)Z"⟩ ∈ rfG := rf_gl 760 rfl rfl
set_option maxRecDepth 40000 in
theorem lm_X7_312 : Cond.methodLink "OneLeg" 312 ⟨"OneLeg$Boots", "perform", "(IIIII)I"⟩ ∈ rfG := rf_gl 764 rfl rfl
set_option maxRecDepth 40000 in
theorem lf_X0_23 : Cond.fieldLink "OneLeg$Boots" 23 "OneLeg$Boots" "BODIES" "[I" ∈ rfG := rf_gl 768 rfl rfl
set_option maxRecDepth 40000 in
theorem lf_X0_20 : Cond.fieldLink "OneLeg$Boots" 20 "OneLeg$Boots" "ABOVE" "[I" ∈ rfG := rf_gl 770 rfl rfl
set_option maxRecDepth 40000 in
theorem lm_X0_26 : Cond.methodLink "OneLeg$Boots" 26 ⟨"OneLeg$Boots", "note", "(I)V"⟩ ∈ rfG := rf_gl 772 rfl rfl
set_option maxRecDepth 40000 in
theorem lm_X0_30 : Cond.methodLink "OneLeg$Boots" 30 ⟨"OneLeg$Boots", "own", "(IIII)I"⟩ ∈ rfG := rf_gl 776 rfl rfl
set_option maxRecDepth 40000 in
theorem lm_X0_34 : Cond.methodLink "OneLeg$Boots" 34 ⟨"OneLeg$Boots", "perform", "(IIIII)I"⟩ ∈ rfG := rf_gl 780 rfl rfl
set_option maxRecDepth 40000 in
theorem lm_X7_321 : Cond.methodLink "OneLeg" 321 ⟨"OneLeg$Shelf", "becomeRow", "(II)V"⟩ ∈ rfG := rf_gl 793 rfl rfl
set_option maxRecDepth 40000 in
theorem lm_X7_325 : Cond.methodLink "OneLeg" 325 ⟨"OneLeg", "refusalOfPlace", "(II)I"⟩ ∈ rfG := rf_gl 801 rfl rfl
set_option maxRecDepth 40000 in
theorem lm_X7_328 : Cond.methodLink "OneLeg" 328 ⟨"OneLeg$Shelf", "cut", "(J)J"⟩ ∈ rfG := rf_gl 805 rfl rfl
set_option maxRecDepth 40000 in
theorem lc_X7_334 : Cond.constantLong "OneLeg" 334 (-9223372036854775808 : Int64) ∈ rfG := rf_gl 813 rfl rfl
set_option maxRecDepth 40000 in
theorem lm_X7_336 : Cond.methodLink "OneLeg" 336 ⟨"OneLeg$Shelf", "hasPlaces", "(II)Z"⟩ ∈ rfG := rf_gl 818 rfl rfl
set_option maxRecDepth 40000 in
theorem lm_X7_339 : Cond.methodLink "OneLeg" 339 ⟨"OneLeg$Boots", "isUnder", "(II)Z"⟩ ∈ rfG := rf_gl 826 rfl rfl
set_option maxRecDepth 40000 in
theorem lf_X8_94 : Cond.fieldLink "OneLegModel" 94 "OneLegModel" "brothers" "I" ∈ rfG := rf_gl 839 rfl rfl
set_option maxRecDepth 40000 in
theorem lf_X8_9 : Cond.fieldLink "OneLegModel" 9 "OneLegModel" "ways" "[I" ∈ rfG := rf_gl 840 rfl rfl
set_option maxRecDepth 40000 in
theorem lf_X8_15 : Cond.fieldLink "OneLegModel" 15 "OneLegModel" "other" "[I" ∈ rfG := rf_gl 841 rfl rfl
set_option maxRecDepth 40000 in
theorem lf_X8_139 : Cond.fieldLink "OneLegModel" 139 "OneLegModel" "taped" "I" ∈ rfG := rf_gl 842 rfl rfl
set_option maxRecDepth 40000 in
theorem lf_X8_18 : Cond.fieldLink "OneLegModel" 18 "OneLegModel" "tape" "[I" ∈ rfG := rf_gl 843 rfl rfl
set_option maxRecDepth 40000 in
theorem lf_X8_193 : Cond.fieldLink "OneLegModel" 193 "OneLegModel" "isTold" "Z" ∈ rfG := rf_gl 844 rfl rfl
set_option maxRecDepth 40000 in
theorem lf_X8_197 : Cond.fieldLink "OneLegModel" 197 "OneLegModel" "lines" "I" ∈ rfG := rf_gl 845 rfl rfl
set_option maxRecDepth 40000 in
theorem lf_X8_21 : Cond.fieldLink "OneLegModel" 21 "OneLegModel" "asks" "[I" ∈ rfG := rf_gl 846 rfl rfl
set_option maxRecDepth 40000 in
theorem lf_X8_24 : Cond.fieldLink "OneLegModel" 24 "OneLegModel" "says" "[I" ∈ rfG := rf_gl 847 rfl rfl
set_option maxRecDepth 40000 in
theorem lf_X8_27 : Cond.fieldLink "OneLegModel" 27 "OneLegModel" "ends" "[I" ∈ rfG := rf_gl 848 rfl rfl
set_option maxRecDepth 40000 in
theorem lf_X8_30 : Cond.fieldLink "OneLegModel" 30 "OneLegModel" "code" "[I" ∈ rfG := rf_gl 849 rfl rfl
set_option maxRecDepth 40000 in
theorem lf_X8_142 : Cond.fieldLink "OneLegModel" 142 "OneLegModel" "at" "I" ∈ rfG := rf_gl 850 rfl rfl
set_option maxRecDepth 40000 in
theorem lf_X8_163 : Cond.fieldLink "OneLegModel" 163 "OneLegModel" "open" "I" ∈ rfG := rf_gl 851 rfl rfl
set_option maxRecDepth 40000 in
theorem lf_X8_149 : Cond.fieldLink "OneLegModel" 149 "OneLegModel" "coded" "I" ∈ rfG := rf_gl 852 rfl rfl
set_option maxRecDepth 40000 in
theorem lf_X8_187 : Cond.fieldLink "OneLegModel" 187 "OneLegModel" "newLines" "I" ∈ rfG := rf_gl 853 rfl rfl
set_option maxRecDepth 40000 in
theorem lf_X8_33 : Cond.fieldLink "OneLegModel" 33 "OneLegModel" "newAsks" "[I" ∈ rfG := rf_gl 854 rfl rfl
set_option maxRecDepth 40000 in
theorem lf_X8_36 : Cond.fieldLink "OneLegModel" 36 "OneLegModel" "newSays" "[I" ∈ rfG := rf_gl 855 rfl rfl
set_option maxRecDepth 40000 in
theorem lf_X8_39 : Cond.fieldLink "OneLegModel" 39 "OneLegModel" "newEnds" "[I" ∈ rfG := rf_gl 856 rfl rfl
set_option maxRecDepth 40000 in
theorem lf_X8_42 : Cond.fieldLink "OneLegModel" 42 "OneLegModel" "newCode" "[I" ∈ rfG := rf_gl 857 rfl rfl
set_option maxRecDepth 40000 in
theorem lf_X8_45 : Cond.fieldLink "OneLegModel" 45 "OneLegModel" "stack" "[I" ∈ rfG := rf_gl 858 rfl rfl
set_option maxRecDepth 40000 in
theorem lf_X8_48 : Cond.fieldLink "OneLegModel" 48 "OneLegModel" "names" "[I" ∈ rfG := rf_gl 859 rfl rfl
set_option maxRecDepth 40000 in
theorem lf_X8_51 : Cond.fieldLink "OneLegModel" 51 "OneLegModel" "led" "[I" ∈ rfG := rf_gl 860 rfl rfl
set_option maxRecDepth 40000 in
theorem lf_X8_298 : Cond.fieldLink "OneLegModel" 298 "OneLegModel" "imaged" "Z" ∈ rfG := rf_gl 861 rfl rfl
set_option maxRecDepth 40000 in
theorem lf_X8_301 : Cond.fieldLink "OneLegModel" 301 "OneLegModel" "oldBrothers" "I" ∈ rfG := rf_gl 862 rfl rfl
set_option maxRecDepth 40000 in
theorem lf_X8_54 : Cond.fieldLink "OneLegModel" 54 "OneLegModel" "old" "[I" ∈ rfG := rf_gl 863 rfl rfl
set_option maxRecDepth 40000 in
theorem lf_X8_57 : Cond.fieldLink "OneLegModel" 57 "OneLegModel" "oldLed" "[I" ∈ rfG := rf_gl 864 rfl rfl
set_option maxRecDepth 40000 in
theorem lf_X8_136 : Cond.fieldLink "OneLegModel" 136 "OneLegModel" "changes" "I" ∈ rfG := rf_gl 865 rfl rfl
set_option maxRecDepth 40000 in
theorem lf_X8_133 : Cond.fieldLink "OneLegModel" 133 "OneLegModel" "done" "I" ∈ rfG := rf_gl 866 rfl rfl
set_option maxRecDepth 40000 in
theorem lf_X8_60 : Cond.fieldLink "OneLegModel" 60 "OneLegModel" "changed" "[I" ∈ rfG := rf_gl 867 rfl rfl
set_option maxRecDepth 40000 in
theorem lf_X8_326 : Cond.fieldLink "OneLegModel" 326 "OneLegModel" "bodies" "I" ∈ rfG := rf_gl 868 rfl rfl
set_option maxRecDepth 40000 in
theorem lf_X8_63 : Cond.fieldLink "OneLegModel" 63 "OneLegModel" "bodyKind" "[I" ∈ rfG := rf_gl 869 rfl rfl
set_option maxRecDepth 40000 in
theorem lf_X8_304 : Cond.fieldLink "OneLegModel" 304 "OneLegModel" "traced" "I" ∈ rfG := rf_gl 870 rfl rfl
set_option maxRecDepth 40000 in
theorem lf_X8_66 : Cond.fieldLink "OneLegModel" 66 "OneLegModel" "traces" "[I" ∈ rfG := rf_gl 871 rfl rfl
set_option maxRecDepth 40000 in
theorem lf_X8_69 : Cond.fieldLink "OneLegModel" 69 "OneLegModel" "holding" "[I" ∈ rfG := rf_gl 872 rfl rfl
set_option maxRecDepth 40000 in
theorem lf_X8_72 : Cond.fieldLink "OneLegModel" 72 "OneLegModel" "rowLength" "[I" ∈ rfG := rf_gl 873 rfl rfl
set_option maxRecDepth 40000 in
theorem lf_X8_75 : Cond.fieldLink "OneLegModel" 75 "OneLegModel" "rowOf" "[J" ∈ rfG := rf_gl 874 rfl rfl
set_option maxRecDepth 40000 in
theorem lf_X8_79 : Cond.fieldLink "OneLegModel" 79 "OneLegModel" "was" "[I" ∈ rfG := rf_gl 875 rfl rfl
set_option maxRecDepth 40000 in
theorem lf_X8_82 : Cond.fieldLink "OneLegModel" 82 "OneLegModel" "begun" "[I" ∈ rfG := rf_gl 876 rfl rfl
set_option maxRecDepth 40000 in
theorem lf_X8_85 : Cond.fieldLink "OneLegModel" 85 "OneLegModel" "tried" "[I" ∈ rfG := rf_gl 877 rfl rfl
set_option maxRecDepth 40000 in
theorem lf_X8_88 : Cond.fieldLink "OneLegModel" 88 "OneLegModel" "best" "[I" ∈ rfG := rf_gl 878 rfl rfl
set_option maxRecDepth 40000 in
theorem lf_X8_253 : Cond.fieldLink "OneLegModel" 253 "OneLegModel" "most" "I" ∈ rfG := rf_gl 879 rfl rfl
set_option maxRecDepth 40000 in
theorem lf_X8_256 : Cond.fieldLink "OneLegModel" 256 "OneLegModel" "least" "I" ∈ rfG := rf_gl 880 rfl rfl
set_option maxRecDepth 40000 in
theorem lf_X8_91 : Cond.fieldLink "OneLegModel" 91 "OneLegModel" "minutes" "[I" ∈ rfG := rf_gl 881 rfl rfl
set_option maxRecDepth 40000 in
theorem lm_X8_98 : Cond.methodLink "OneLegModel" 98 ⟨"OneLegModel", "within", "(III)Z"⟩ ∈ rfG := rf_gl 973 rfl rfl
set_option maxRecDepth 40000 in
theorem lm_X8_102 : Cond.methodLink "OneLegModel" 102 ⟨"OneLegModel", "newOne", "(III)I"⟩ ∈ rfG := rf_gl 976 rfl rfl
set_option maxRecDepth 40000 in
theorem lm_X8_106 : Cond.methodLink "OneLegModel" 106 ⟨"OneLegModel", "isShelf", "(I)Z"⟩ ∈ rfG := rf_gl 984 rfl rfl
set_option maxRecDepth 40000 in
theorem lc_X8_110 : Cond.constantLong "OneLegModel" 110 (3 : Int64) ∈ rfG := rf_gl 987 rfl rfl
set_option maxRecDepth 40000 in
theorem lm_X8_112 : Cond.methodLink "OneLegModel" 112 ⟨"OneLegModel", "toldAt", "(II)I"⟩ ∈ rfG := rf_gl 988 rfl rfl
set_option maxRecDepth 40000 in
theorem lm_X8_119 : Cond.methodLink "OneLegModel" 119 ⟨"OneLegModel", "isOf", "(II)Z"⟩ ∈ rfG := rf_gl 996 rfl rfl
set_option maxRecDepth 40000 in
theorem lm_X8_116 : Cond.methodLink "OneLegModel" 116 ⟨"OneLegModel", "isOne", "(I)Z"⟩ ∈ rfG := rf_gl 1000 rfl rfl
set_option maxRecDepth 40000 in
theorem lm_X8_123 : Cond.methodLink "OneLegModel" 123 ⟨"OneLegModel", "isFit", "(II)Z"⟩ ∈ rfG := rf_gl 1004 rfl rfl
set_option maxRecDepth 40000 in
theorem lm_X8_126 : Cond.methodLink "OneLegModel" 126 ⟨"OneLegModel", "get", "(II)I"⟩ ∈ rfG := rf_gl 1007 rfl rfl
set_option maxRecDepth 40000 in
theorem lm_X8_129 : Cond.methodLink "OneLegModel" 129 ⟨"OneLegModel", "becomes", "(III)V"⟩ ∈ rfG := rf_gl 1011 rfl rfl
set_option maxRecDepth 40000 in
theorem lm_X8_190 : Cond.methodLink "OneLegModel" 190 ⟨"OneLegModel", "isLine", "()Z"⟩ ∈ rfG := rf_gl 1035 rfl rfl
set_option maxRecDepth 40000 in
theorem lm_X8_172 : Cond.methodLink "OneLegModel" 172 ⟨"OneLegModel", "isE", "()Z"⟩ ∈ rfG := rf_gl 1039 rfl rfl
set_option maxRecDepth 40000 in
theorem lm_X8_184 : Cond.methodLink "OneLegModel" 184 ⟨"OneLegModel", "isA", "()Z"⟩ ∈ rfG := rf_gl 1043 rfl rfl
set_option maxRecDepth 40000 in
theorem lm_X8_181 : Cond.methodLink "OneLegModel" 181 ⟨"OneLegModel", "isB", "()Z"⟩ ∈ rfG := rf_gl 1047 rfl rfl
set_option maxRecDepth 40000 in
theorem lm_X8_178 : Cond.methodLink "OneLegModel" 178 ⟨"OneLegModel", "isS", "()Z"⟩ ∈ rfG := rf_gl 1051 rfl rfl
set_option maxRecDepth 40000 in
theorem lm_X8_175 : Cond.methodLink "OneLegModel" 175 ⟨"OneLegModel", "isP", "()Z"⟩ ∈ rfG := rf_gl 1055 rfl rfl
set_option maxRecDepth 40000 in
theorem lm_X8_169 : Cond.methodLink "OneLegModel" 169 ⟨"OneLegModel", "isO", "()Z"⟩ ∈ rfG := rf_gl 1059 rfl rfl
set_option maxRecDepth 40000 in
theorem lm_X8_152 : Cond.methodLink "OneLegModel" 152 ⟨"OneLegModel", "isDigit", "()Z"⟩ ∈ rfG := rf_gl 1063 rfl rfl
set_option maxRecDepth 40000 in
theorem lm_X8_145 : Cond.methodLink "OneLegModel" 145 ⟨"OneLegModel", "sign", "()I"⟩ ∈ rfG := rf_gl 1067 rfl rfl
set_option maxRecDepth 40000 in
theorem lm_X8_156 : Cond.methodLink "OneLegModel" 156 ⟨"OneLegModel", "codes", "(I)Z"⟩ ∈ rfG := rf_gl 1071 rfl rfl
set_option maxRecDepth 40000 in
theorem lm_X8_159 : Cond.methodLink "OneLegModel" 159 ⟨"OneLegModel", "nameOf", "(I)I"⟩ ∈ rfG := rf_gl 1075 rfl rfl
set_option maxRecDepth 40000 in
theorem lm_X8_166 : Cond.methodLink "OneLegModel" 166 ⟨"OneLegModel", "is", "(I)Z"⟩ ∈ rfG := rf_gl 1078 rfl rfl
set_option maxRecDepth 40000 in
theorem lm_X8_228 : Cond.methodLink "OneLegModel" 228 ⟨"OneLegModel", "doneBy", "(I)I"⟩ ∈ rfG := rf_gl 1086 rfl rfl
set_option maxRecDepth 40000 in
theorem lm_X8_217 : Cond.methodLink "OneLegModel" 217 ⟨"OneLegModel", "byLaw", "(I)I"⟩ ∈ rfG := rf_gl 1090 rfl rfl
set_option maxRecDepth 40000 in
theorem lm_X8_206 : Cond.methodLink "OneLegModel" 206 ⟨"OneLegModel", "wants", "(II)Z"⟩ ∈ rfG := rf_gl 1094 rfl rfl
set_option maxRecDepth 40000 in
theorem lm_X8_203 : Cond.methodLink "OneLegModel" 203 ⟨"OneLegModel", "has", "(II)Z"⟩ ∈ rfG := rf_gl 1098 rfl rfl
set_option maxRecDepth 40000 in
theorem lm_X8_209 : Cond.methodLink "OneLegModel" 209 ⟨"java/lang/Integer", "bitCount", "(I)I"⟩ ∈ rfG := rf_gl 1101 rfl rfl
set_option maxRecDepth 40000 in
theorem lm_X8_214 : Cond.methodLink "OneLegModel" 214 ⟨"OneLegModel", "worked", "(II)I"⟩ ∈ rfG := rf_gl 1102 rfl rfl
set_option maxRecDepth 40000 in
theorem lm_X8_200 : Cond.methodLink "OneLegModel" 200 ⟨"OneLegModel", "both", "(III)I"⟩ ∈ rfG := rf_gl 1106 rfl rfl
set_option maxRecDepth 40000 in
theorem lm_X8_220 : Cond.methodLink "OneLegModel" 220 ⟨"java/lang/Math", "min", "(II)I"⟩ ∈ rfG := rf_gl 1109 rfl rfl
set_option maxRecDepth 40000 in
theorem lm_X8_225 : Cond.methodLink "OneLegModel" 225 ⟨"java/lang/Math", "max", "(II)I"⟩ ∈ rfG := rf_gl 1110 rfl rfl
set_option maxRecDepth 40000 in
theorem lm_X8_237 : Cond.methodLink "OneLegModel" 237 ⟨"OneLegModel", "noBytes", "(I)I"⟩ ∈ rfG := rf_gl 1115 rfl rfl
set_option maxRecDepth 40000 in
theorem lm_X8_240 : Cond.methodLink "OneLegModel" 240 ⟨"OneLegModel", "keeps", "([I)V"⟩ ∈ rfG := rf_gl 1119 rfl rfl
set_option maxRecDepth 40000 in
theorem lm_X8_244 : Cond.methodLink "OneLegModel" 244 ⟨"OneLegModel", "goes", "(II)I"⟩ ∈ rfG := rf_gl 1123 rfl rfl
set_option maxRecDepth 40000 in
theorem lm_X8_231 : Cond.methodLink "OneLegModel" 231 ⟨"OneLegModel", "daysOf", "(I)I"⟩ ∈ rfG := rf_gl 1127 rfl rfl
set_option maxRecDepth 40000 in
theorem lm_X8_234 : Cond.methodLink "OneLegModel" 234 ⟨"OneLegModel", "passes", "(I)I"⟩ ∈ rfG := rf_gl 1131 rfl rfl
set_option maxRecDepth 40000 in
theorem lm_X8_247 : Cond.methodLink "OneLegModel" 247 ⟨"OneLegModel", "allOwed", "()I"⟩ ∈ rfG := rf_gl 1135 rfl rfl
set_option maxRecDepth 40000 in
theorem lm_X8_250 : Cond.methodLink "OneLegModel" 250 ⟨"OneLegModel", "laysBack", "([I)V"⟩ ∈ rfG := rf_gl 1139 rfl rfl
set_option maxRecDepth 40000 in
theorem lm_X8_259 : Cond.methodLink "OneLegModel" 259 ⟨"OneLegModel", "tries", "(II)V"⟩ ∈ rfG := rf_gl 1151 rfl rfl
set_option maxRecDepth 40000 in
theorem lm_X8_263 : Cond.methodLink "OneLegModel" 263 ⟨"OneLegModel", "knownBy", "(I)I"⟩ ∈ rfG := rf_gl 1159 rfl rfl
set_option maxRecDepth 40000 in
theorem lm_X8_266 : Cond.methodLink "OneLegModel" 266 ⟨"OneLegModel", "parts", "(I)Z"⟩ ∈ rfG := rf_gl 1167 rfl rfl
set_option maxRecDepth 40000 in
theorem lm_X8_269 : Cond.methodLink "OneLegModel" 269 ⟨"OneLegModel", "deals", "(III)V"⟩ ∈ rfG := rf_gl 1175 rfl rfl
set_option maxRecDepth 40000 in
theorem lm_X8_278 : Cond.methodLink "OneLegModel" 278 ⟨"OneLegModel", "burns", "()V"⟩ ∈ rfG := rf_gl 1183 rfl rfl
set_option maxRecDepth 40000 in
theorem lm_X8_275 : Cond.methodLink "OneLegModel" 275 ⟨"OneLegModel", "goOut", "(III)I"⟩ ∈ rfG := rf_gl 1187 rfl rfl
set_option maxRecDepth 40000 in
theorem lm_X8_272 : Cond.methodLink "OneLegModel" 272 ⟨"OneLegModel", "slow", "(I)I"⟩ ∈ rfG := rf_gl 1191 rfl rfl
set_option maxRecDepth 40000 in
theorem lm_X8_281 : Cond.methodLink "OneLegModel" 281 ⟨"OneLegModel", "noDebts", "(I)I"⟩ ∈ rfG := rf_gl 1199 rfl rfl
set_option maxRecDepth 40000 in
theorem lm_X8_284 : Cond.methodLink "OneLegModel" 284 ⟨"OneLegModel", "unlike", "(II)I"⟩ ∈ rfG := rf_gl 1203 rfl rfl
set_option maxRecDepth 40000 in
theorem lc_X8_296 : Cond.constant "OneLegModel" 296 (-2000000000 : Int32) ∈ rfG := rf_gl 1215 rfl rfl
set_option maxRecDepth 40000 in
theorem lm_X8_287 : Cond.methodLink "OneLegModel" 287 ⟨"OneLegModel", "turnBy", "(IIIZ)I"⟩ ∈ rfG := rf_gl 1216 rfl rfl
set_option maxRecDepth 40000 in
theorem lm_X8_291 : Cond.methodLink "OneLegModel" 291 ⟨"OneLegModel", "turnFrom", "(III)I"⟩ ∈ rfG := rf_gl 1220 rfl rfl
set_option maxRecDepth 40000 in
theorem lc_X8_294 : Cond.constantLong "OneLegModel" 294 (255 : Int64) ∈ rfG := rf_gl 1224 rfl rfl
set_option maxRecDepth 40000 in
theorem lc_X8_297 : Cond.constant "OneLegModel" 297 (1103515245 : Int32) ∈ rfG := rf_gl 1229 rfl rfl
set_option maxRecDepth 40000 in
theorem lm_X8_311 : Cond.methodLink "OneLegModel" 311 ⟨"OneLegModel", "walksBy", "(III)I"⟩ ∈ rfG := rf_gl 1266 rfl rfl
set_option maxRecDepth 40000 in
theorem lm_X8_307 : Cond.methodLink "OneLegModel" 307 ⟨"OneLegModel", "ran", "(I)V"⟩ ∈ rfG := rf_gl 1270 rfl rfl
set_option maxRecDepth 40000 in
theorem lm_X8_314 : Cond.methodLink "OneLegModel" 314 ⟨"OneLegModel", "above", "(I)I"⟩ ∈ rfG := rf_gl 1274 rfl rfl
set_option maxRecDepth 40000 in
theorem lm_X8_317 : Cond.methodLink "OneLegModel" 317 ⟨"OneLegModel", "leansBy", "(III)I"⟩ ∈ rfG := rf_gl 1277 rfl rfl
set_option maxRecDepth 40000 in
theorem lm_X8_320 : Cond.methodLink "OneLegModel" 320 ⟨"OneLegModel", "owesBy", "(III)I"⟩ ∈ rfG := rf_gl 1281 rfl rfl
set_option maxRecDepth 40000 in
theorem lm_X8_323 : Cond.methodLink "OneLegModel" 323 ⟨"OneLegModel", "tells", "(III)I"⟩ ∈ rfG := rf_gl 1285 rfl rfl
set_option maxRecDepth 40000 in
theorem lm_X8_329 : Cond.methodLink "OneLegModel" 329 ⟨"OneLegModel", "isRow", "(I)Z"⟩ ∈ rfG := rf_gl 1305 rfl rfl
set_option maxRecDepth 40000 in
theorem lm_X8_332 : Cond.methodLink "OneLegModel" 332 ⟨"OneLegModel", "kept", "(IJ)J"⟩ ∈ rfG := rf_gl 1309 rfl rfl
set_option maxRecDepth 40000 in
theorem lc_X8_336 : Cond.constantLong "OneLegModel" 336 (-9223372036854775808 : Int64) ∈ rfG := rf_gl 1316 rfl rfl
def rfMi (C : String) (y : MethodName) (cc : ByteArray) (nL : Nat) (ret : Option FieldType) (n : Nat) : Prop := nL ≤ 45 ∧ Cond.instanceMethod y ∈ rfG ∧ Cond.selects C y y ∈ rfG ∧ Cond.initialized C ∈ rfG ∧ Cond.code y cc nL ret ∈ rfG ∧ (y.cls = C ∧ y.cls ≠ "java/lang/invoke/MethodHandle" ∧ y.cls ≠ "java/lang/invoke/VarHandle" ∧ (parseMethodDescriptor y.desc).map (fun d => d.parameters.length) = some n)
def rfMs (y : MethodName) (cc : ByteArray) (nL : Nat) (ret : Option FieldType) (n : Nat) : Prop := nL ≤ 45 ∧ Cond.static y ∈ rfG ∧ Cond.initialized y.cls ∈ rfG ∧ Cond.code y cc nL ret ∈ rfG ∧ (y.cls ≠ "java/lang/invoke/MethodHandle" ∧ y.cls ≠ "java/lang/invoke/VarHandle" ∧ (parseMethodDescriptor y.desc).map (fun d => d.parameters.length) = some n)
set_option maxRecDepth 40000 in
theorem mi_X0_add : rfMi RX0 yX0_add cX0_add 2 (some .int) 1 := ⟨by decide, rf_gl 753 rfl rfl, rf_gl 754 rfl rfl, rf_gl 89 rfl rfl, rf_gl 755 rfl rfl, by decide +kernel⟩
set_option maxRecDepth 40000 in
theorem ms_X0_isUnder : rfMs yX0_isUnder cX0_isUnder 4 (some .boolean) 2 := ⟨by decide, rf_gl 827 rfl rfl, rf_gl 89 rfl rfl, rf_gl 828 rfl rfl, by decide +kernel⟩
set_option maxRecDepth 40000 in
theorem mi_X0_perform : rfMi RX0 yX0_perform cX0_perform 9 (some .int) 5 := ⟨by decide, rf_gl 765 rfl rfl, rf_gl 766 rfl rfl, rf_gl 89 rfl rfl, rf_gl 767 rfl rfl, by decide +kernel⟩
set_option maxRecDepth 40000 in
theorem mi_X0_own : rfMi RX0 yX0_own cX0_own 5 (some .int) 4 := ⟨by decide, rf_gl 778 rfl rfl, rf_gl 35 rfl rfl, rf_gl 89 rfl rfl, rf_gl 779 rfl rfl, by decide +kernel⟩
set_option maxRecDepth 40000 in
theorem mi_X0_note : rfMi RX0 yX0_note cX0_note 2 none 1 := ⟨by decide, rf_gl 774 rfl rfl, rf_gl 34 rfl rfl, rf_gl 89 rfl rfl, rf_gl 775 rfl rfl, by decide +kernel⟩
set_option maxRecDepth 40000 in
theorem mi_X1_add : rfMi RX1 yX1_add cX1_add 5 none 4 := ⟨by decide, rf_gl 402 rfl rfl, rf_gl 403 rfl rfl, rf_gl 88 rfl rfl, rf_gl 404 rfl rfl, by decide +kernel⟩
set_option maxRecDepth 40000 in
theorem mi_X1_dropOldest : rfMi RX1 yX1_dropOldest cX1_dropOldest 1 none 0 := ⟨by decide, rf_gl 407 rfl rfl, rf_gl 4 rfl rfl, rf_gl 88 rfl rfl, rf_gl 408 rfl rfl, by decide +kernel⟩
set_option maxRecDepth 40000 in
theorem mi_X2_isOne : rfMi RX2 yX2_isOne cX2_isOne 2 (some .boolean) 1 := ⟨by decide, rf_gl 390 rfl rfl, rf_gl 391 rfl rfl, rf_gl 84 rfl rfl, rf_gl 392 rfl rfl, by decide +kernel⟩
set_option maxRecDepth 40000 in
theorem mi_X2_mayHave : rfMi RX2 yX2_mayHave cX2_mayHave 3 (some .boolean) 1 := ⟨by decide, rf_gl 535 rfl rfl, rf_gl 536 rfl rfl, rf_gl 84 rfl rfl, rf_gl 537 rfl rfl, by decide +kernel⟩
set_option maxRecDepth 40000 in
theorem mi_X2_doneBy : rfMi RX2 yX2_doneBy cX2_doneBy 6 (some .int) 2 := ⟨by decide, rf_gl 483 rfl rfl, rf_gl 484 rfl rfl, rf_gl 84 rfl rfl, rf_gl 485 rfl rfl, by decide +kernel⟩
set_option maxRecDepth 40000 in
theorem mi_X2_pass : rfMi RX2 yX2_pass cX2_pass 5 (some .int) 2 := ⟨by decide, rf_gl 541 rfl rfl, rf_gl 542 rfl rfl, rf_gl 84 rfl rfl, rf_gl 543 rfl rfl, by decide +kernel⟩
set_option maxRecDepth 40000 in
theorem mi_X2_owedBehind : rfMi RX2 yX2_owedBehind cX2_owedBehind 7 (some .int) 5 := ⟨by decide, rf_gl 547 rfl rfl, rf_gl 548 rfl rfl, rf_gl 84 rfl rfl, rf_gl 549 rfl rfl, by decide +kernel⟩
set_option maxRecDepth 40000 in
theorem mi_X2_daysOf : rfMi RX2 yX2_daysOf cX2_daysOf 4 (some .int) 1 := ⟨by decide, rf_gl 531 rfl rfl, rf_gl 532 rfl rfl, rf_gl 84 rfl rfl, rf_gl 533 rfl rfl, by decide +kernel⟩
set_option maxRecDepth 40000 in
theorem mi_X3_isWritten : rfMi RX3 yX3_isWritten cX3_isWritten 1 (some .boolean) 0 := ⟨by decide, rf_gl 487 rfl rfl, rf_gl 488 rfl rfl, rf_gl 85 rfl rfl, rf_gl 489 rfl rfl, by decide +kernel⟩
set_option maxRecDepth 40000 in
theorem mi_X3_write : rfMi RX3 yX3_write cX3_write 2 (some .int) 1 := ⟨by decide, rf_gl 425 rfl rfl, rf_gl 426 rfl rfl, rf_gl 85 rfl rfl, rf_gl 427 rfl rfl, by decide +kernel⟩
set_option maxRecDepth 40000 in
theorem mi_X3_read : rfMi RX3 yX3_read cX3_read 2 (some .int) 0 := ⟨by decide, rf_gl 433 rfl rfl, rf_gl 434 rfl rfl, rf_gl 85 rfl rfl, rf_gl 435 rfl rfl, by decide +kernel⟩
set_option maxRecDepth 40000 in
theorem mi_X3_readLines : rfMi RX3 yX3_readLines cX3_readLines 2 (some .boolean) 0 := ⟨by decide, rf_gl 438 rfl rfl, rf_gl 6 rfl rfl, rf_gl 85 rfl rfl, rf_gl 439 rfl rfl, by decide +kernel⟩
set_option maxRecDepth 40000 in
theorem mi_X3_readLine : rfMi RX3 yX3_readLine cX3_readLine 1 (some .boolean) 0 := ⟨by decide, rf_gl 442 rfl rfl, rf_gl 7 rfl rfl, rf_gl 85 rfl rfl, rf_gl 443 rfl rfl, by decide +kernel⟩
set_option maxRecDepth 40000 in
theorem mi_X3_readChain : rfMi RX3 yX3_readChain cX3_readChain 5 (some .boolean) 2 := ⟨by decide, rf_gl 446 rfl rfl, rf_gl 8 rfl rfl, rf_gl 85 rfl rfl, rf_gl 447 rfl rfl, by decide +kernel⟩
set_option maxRecDepth 40000 in
theorem mi_X3_readOperand : rfMi RX3 yX3_readOperand cX3_readOperand 5 (some .boolean) 1 := ⟨by decide, rf_gl 450 rfl rfl, rf_gl 9 rfl rfl, rf_gl 85 rfl rfl, rf_gl 451 rfl rfl, by decide +kernel⟩
set_option maxRecDepth 40000 in
theorem mi_X3_readNumber : rfMi RX3 yX3_readNumber cX3_readNumber 3 none 0 := ⟨by decide, rf_gl 461 rfl rfl, rf_gl 11 rfl rfl, rf_gl 85 rfl rfl, rf_gl 462 rfl rfl, by decide +kernel⟩
set_option maxRecDepth 40000 in
theorem mi_X3_isAccepted : rfMi RX3 yX3_isAccepted cX3_isAccepted 2 (some .boolean) 1 := ⟨by decide, rf_gl 472 rfl rfl, rf_gl 13 rfl rfl, rf_gl 85 rfl rfl, rf_gl 473 rfl rfl, by decide +kernel⟩
set_option maxRecDepth 40000 in
theorem mi_X3_sign : rfMi RX3 yX3_sign cX3_sign 1 (some .int) 0 := ⟨by decide, rf_gl 454 rfl rfl, rf_gl 10 rfl rfl, rf_gl 85 rfl rfl, rf_gl 455 rfl rfl, by decide +kernel⟩
set_option maxRecDepth 40000 in
theorem mi_X3_addStep : rfMi RX3 yX3_addStep cX3_addStep 2 none 1 := ⟨by decide, rf_gl 465 rfl rfl, rf_gl 12 rfl rfl, rf_gl 85 rfl rfl, rf_gl 466 rfl rfl, by decide +kernel⟩
set_option maxRecDepth 40000 in
theorem ms_X3_isDigit : rfMs yX3_isDigit cX3_isDigit 1 (some .boolean) 1 := ⟨by decide, rf_gl 457 rfl rfl, rf_gl 85 rfl rfl, rf_gl 458 rfl rfl, by decide +kernel⟩
set_option maxRecDepth 40000 in
theorem ms_X3_nameOf : rfMs yX3_nameOf cX3_nameOf 1 (some .int) 1 := ⟨by decide, rf_gl 468 rfl rfl, rf_gl 85 rfl rfl, rf_gl 469 rfl rfl, by decide +kernel⟩
set_option maxRecDepth 40000 in
theorem ms_X3_levelOf : rfMs yX3_levelOf cX3_levelOf 1 (some .int) 1 := ⟨by decide, rf_gl 475 rfl rfl, rf_gl 85 rfl rfl, rf_gl 476 rfl rfl, by decide +kernel⟩
set_option maxRecDepth 40000 in
theorem mi_X3_workOut : rfMi RX3 yX3_workOut cX3_workOut 7 (some .int) 1 := ⟨by decide, rf_gl 497 rfl rfl, rf_gl 498 rfl rfl, rf_gl 85 rfl rfl, rf_gl 499 rfl rfl, by decide +kernel⟩
set_option maxRecDepth 40000 in
theorem mi_X3_endOfLine : rfMi RX3 yX3_endOfLine cX3_endOfLine 3 (some .int) 1 := ⟨by decide, rf_gl 502 rfl rfl, rf_gl 14 rfl rfl, rf_gl 85 rfl rfl, rf_gl 503 rfl rfl, by decide +kernel⟩
set_option maxRecDepth 40000 in
theorem ms_X3_joined : rfMs yX3_joined cX3_joined 3 (some .int) 3 := ⟨by decide, rf_gl 505 rfl rfl, rf_gl 85 rfl rfl, rf_gl 506 rfl rfl, by decide +kernel⟩
set_option maxRecDepth 40000 in
theorem mi_X4_becomeRow : rfMi RX4 yX4_becomeRow cX4_becomeRow 4 none 2 := ⟨by decide, rf_gl 794 rfl rfl, rf_gl 795 rfl rfl, rf_gl 90 rfl rfl, rf_gl 796 rfl rfl, by decide +kernel⟩
set_option maxRecDepth 40000 in
theorem mi_X4_refusalFor : rfMi RX4 yX4_refusalFor cX4_refusalFor 2 (some .int) 1 := ⟨by decide, rf_gl 518 rfl rfl, rf_gl 519 rfl rfl, rf_gl 90 rfl rfl, rf_gl 520 rfl rfl, by decide +kernel⟩
set_option maxRecDepth 40000 in
theorem mi_X4_hasPlaces : rfMi RX4 yX4_hasPlaces cX4_hasPlaces 3 (some .boolean) 2 := ⟨by decide, rf_gl 819 rfl rfl, rf_gl 820 rfl rfl, rf_gl 90 rfl rfl, rf_gl 821 rfl rfl, by decide +kernel⟩
set_option maxRecDepth 40000 in
theorem mi_X4_cut : rfMi RX4 yX4_cut cX4_cut 3 (some .long) 1 := ⟨by decide, rf_gl 806 rfl rfl, rf_gl 807 rfl rfl, rf_gl 90 rfl rfl, rf_gl 808 rfl rfl, by decide +kernel⟩
set_option maxRecDepth 40000 in
theorem mi_X5_copyFrom : rfMi RX5 yX5_copyFrom cX5_copyFrom 3 none 2 := ⟨by decide, rf_gl 526 rfl rfl, rf_gl 527 rfl rfl, rf_gl 86 rfl rfl, rf_gl 528 rfl rfl, by decide +kernel⟩
set_option maxRecDepth 40000 in
theorem mi_X5_owedOfAll : rfMi RX5 yX5_owedOfAll cX5_owedOfAll 4 (some .int) 1 := ⟨by decide, rf_gl 555 rfl rfl, rf_gl 556 rfl rfl, rf_gl 86 rfl rfl, rf_gl 557 rfl rfl, by decide +kernel⟩
set_option maxRecDepth 40000 in
theorem mi_X6_latest : rfMi RX6 yX6_latest cX6_latest 1 (some (.object "OneLeg$Standing")) 0 := ⟨by decide, rf_gl 551 rfl rfl, rf_gl 552 rfl rfl, rf_gl 87 rfl rfl, rf_gl 553 rfl rfl, by decide +kernel⟩
set_option maxRecDepth 40000 in
theorem mi_X6_follow : rfMi RX6 yX6_follow cX6_follow 7 (some .int) 3 := ⟨by decide, rf_gl 522 rfl rfl, rf_gl 523 rfl rfl, rf_gl 87 rfl rfl, rf_gl 524 rfl rfl, by decide +kernel⟩
set_option maxRecDepth 40000 in
theorem mi_X6_seekBest : rfMi RX6 yX6_seekBest cX6_seekBest 3 none 2 := ⟨by decide, rf_gl 569 rfl rfl, rf_gl 570 rfl rfl, rf_gl 87 rfl rfl, rf_gl 571 rfl rfl, by decide +kernel⟩
set_option maxRecDepth 40000 in
theorem mi_X6_seekFrom : rfMi RX6 yX6_seekFrom cX6_seekFrom 5 none 3 := ⟨by decide, rf_gl 574 rfl rfl, rf_gl 15 rfl rfl, rf_gl 87 rfl rfl, rf_gl 575 rfl rfl, by decide +kernel⟩
set_option maxRecDepth 40000 in
theorem mi_X6_weigh : rfMi RX6 yX6_weigh cX6_weigh 5 none 2 := ⟨by decide, rf_gl 578 rfl rfl, rf_gl 16 rfl rfl, rf_gl 87 rfl rfl, rf_gl 579 rfl rfl, by decide +kernel⟩
set_option maxRecDepth 40000 in
theorem mi_X6_worthOfTurns : rfMi RX6 yX6_worthOfTurns cX6_worthOfTurns 5 (some .int) 4 := ⟨by decide, rf_gl 679 rfl rfl, rf_gl 680 rfl rfl, rf_gl 87 rfl rfl, rf_gl 681 rfl rfl, by decide +kernel⟩
set_option maxRecDepth 40000 in
theorem mi_X6_worthFrom : rfMi RX6 yX6_worthFrom cX6_worthFrom 7 (some .int) 4 := ⟨by decide, rf_gl 684 rfl rfl, rf_gl 29 rfl rfl, rf_gl 87 rfl rfl, rf_gl 685 rfl rfl, by decide +kernel⟩
set_option maxRecDepth 40000 in
theorem mi_X6_worthBehind : rfMi RX6 yX6_worthBehind cX6_worthBehind 7 (some .int) 5 := ⟨by decide, rf_gl 688 rfl rfl, rf_gl 30 rfl rfl, rf_gl 87 rfl rfl, rf_gl 689 rfl rfl, by decide +kernel⟩
set_option maxRecDepth 40000 in
theorem mi_X6_draw : rfMi RX6 yX6_draw cX6_draw 13 (some .int) 6 := ⟨by decide, rf_gl 696 rfl rfl, rf_gl 697 rfl rfl, rf_gl 87 rfl rfl, rf_gl 698 rfl rfl, by decide +kernel⟩
set_option maxRecDepth 40000 in
theorem mi_X6_drawnBy : rfMi RX6 yX6_drawnBy cX6_drawnBy 3 (some .int) 2 := ⟨by decide, rf_gl 702 rfl rfl, rf_gl 31 rfl rfl, rf_gl 87 rfl rfl, rf_gl 703 rfl rfl, by decide +kernel⟩
set_option maxRecDepth 40000 in
theorem mi_X6_dealt : rfMi RX6 yX6_dealt cX6_dealt 5 (some .int) 1 := ⟨by decide, rf_gl 618 rfl rfl, rf_gl 619 rfl rfl, rf_gl 87 rfl rfl, rf_gl 620 rfl rfl, by decide +kernel⟩
set_option maxRecDepth 40000 in
theorem mi_X6_holderOf : rfMi RX6 yX6_holderOf cX6_holderOf 7 (some .int) 2 := ⟨by decide, rf_gl 623 rfl rfl, rf_gl 21 rfl rfl, rf_gl 87 rfl rfl, rf_gl 624 rfl rfl, by decide +kernel⟩
set_option maxRecDepth 40000 in
theorem mi_X6_dealtBy : rfMi RX6 yX6_dealtBy cX6_dealtBy 5 (some .int) 3 := ⟨by decide, rf_gl 627 rfl rfl, rf_gl 22 rfl rfl, rf_gl 87 rfl rfl, rf_gl 628 rfl rfl, by decide +kernel⟩
set_option maxRecDepth 40000 in
theorem ms_X6_groupOf : rfMs yX6_groupOf cX6_groupOf 1 (some .int) 1 := ⟨by decide, rf_gl 630 rfl rfl, rf_gl 87 rfl rfl, rf_gl 631 rfl rfl, by decide +kernel⟩
set_option maxRecDepth 40000 in
theorem mi_X6_minutesOut : rfMi RX6 yX6_minutesOut cX6_minutesOut 5 (some .int) 0 := ⟨by decide, rf_gl 637 rfl rfl, rf_gl 638 rfl rfl, rf_gl 87 rfl rfl, rf_gl 639 rfl rfl, by decide +kernel⟩
set_option maxRecDepth 40000 in
theorem mi_X6_sortBySlow : rfMi RX6 yX6_sortBySlow cX6_sortBySlow 3 none 0 := ⟨by decide, rf_gl 642 rfl rfl, rf_gl 23 rfl rfl, rf_gl 87 rfl rfl, rf_gl 643 rfl rfl, by decide +kernel⟩
set_option maxRecDepth 40000 in
theorem mi_X7_brother : rfMi RX7 yX7_brother cX7_brother 2 (some .int) 1 := ⟨by decide, rf_gl 360 rfl rfl, rf_gl 361 rfl rfl, rf_gl 83 rfl rfl, rf_gl 362 rfl rfl, by decide +kernel⟩
set_option maxRecDepth 40000 in
theorem mi_X7_brothers : rfMi RX7 yX7_brothers cX7_brothers 7 (some .int) 3 := ⟨by decide, rf_gl 371 rfl rfl, rf_gl 372 rfl rfl, rf_gl 83 rfl rfl, rf_gl 373 rfl rfl, by decide +kernel⟩
set_option maxRecDepth 40000 in
theorem mi_X7_comesFrom : rfMi RX7 yX7_comesFrom cX7_comesFrom 6 (some .boolean) 2 := ⟨by decide, rf_gl 379 rfl rfl, rf_gl 1 rfl rfl, rf_gl 83 rfl rfl, rf_gl 380 rfl rfl, by decide +kernel⟩
set_option maxRecDepth 40000 in
theorem mi_X7_welcome : rfMi RX7 yX7_welcome cX7_welcome 5 (some .int) 3 := ⟨by decide, rf_gl 368 rfl rfl, rf_gl 0 rfl rfl, rf_gl 83 rfl rfl, rf_gl 369 rfl rfl, by decide +kernel⟩
set_option maxRecDepth 40000 in
theorem mi_X7_mend : rfMi RX7 yX7_mend cX7_mend 5 (some .int) 3 := ⟨by decide, rf_gl 382 rfl rfl, rf_gl 383 rfl rfl, rf_gl 83 rfl rfl, rf_gl 384 rfl rfl, by decide +kernel⟩
set_option maxRecDepth 40000 in
theorem mi_X7_of : rfMi RX7 yX7_of cX7_of 3 (some .int) 2 := ⟨by decide, rf_gl 417 rfl rfl, rf_gl 418 rfl rfl, rf_gl 83 rfl rfl, rf_gl 419 rfl rfl, by decide +kernel⟩
set_option maxRecDepth 40000 in
theorem mi_X7_isNumber : rfMi RX7 yX7_isNumber cX7_isNumber 3 (some .boolean) 2 := ⟨by decide, rf_gl 387 rfl rfl, rf_gl 2 rfl rfl, rf_gl 83 rfl rfl, rf_gl 388 rfl rfl, by decide +kernel⟩
set_option maxRecDepth 40000 in
theorem mi_X7_numberOf : rfMi RX7 yX7_numberOf cX7_numberOf 3 (some .int) 2 := ⟨by decide, rf_gl 399 rfl rfl, rf_gl 3 rfl rfl, rf_gl 83 rfl rfl, rf_gl 400 rfl rfl, by decide +kernel⟩
set_option maxRecDepth 40000 in
theorem mi_X7_become : rfMi RX7 yX7_become cX7_become 4 none 3 := ⟨by decide, rf_gl 414 rfl rfl, rf_gl 5 rfl rfl, rf_gl 83 rfl rfl, rf_gl 415 rfl rfl, by decide +kernel⟩
set_option maxRecDepth 40000 in
theorem mi_X7_feed : rfMi RX7 yX7_feed cX7_feed 2 (some .int) 1 := ⟨by decide, rf_gl 421 rfl rfl, rf_gl 422 rfl rfl, rf_gl 83 rfl rfl, rf_gl 423 rfl rfl, by decide +kernel⟩
set_option maxRecDepth 40000 in
theorem mi_X7_law : rfMi RX7 yX7_law cX7_law 2 (some .int) 0 := ⟨by decide, rf_gl 429 rfl rfl, rf_gl 430 rfl rfl, rf_gl 83 rfl rfl, rf_gl 431 rfl rfl, by decide +kernel⟩
set_option maxRecDepth 40000 in
theorem mi_X7_does : rfMi RX7 yX7_does cX7_does 2 (some .int) 1 := ⟨by decide, rf_gl 479 rfl rfl, rf_gl 480 rfl rfl, rf_gl 83 rfl rfl, rf_gl 481 rfl rfl, by decide +kernel⟩
set_option maxRecDepth 40000 in
theorem mi_X7_later : rfMi RX7 yX7_later cX7_later 10 (some .int) 4 := ⟨by decide, rf_gl 514 rfl rfl, rf_gl 515 rfl rfl, rf_gl 83 rfl rfl, rf_gl 516 rfl rfl, by decide +kernel⟩
set_option maxRecDepth 40000 in
theorem mi_X7_deep : rfMi RX7 yX7_deep cX7_deep 9 (some .int) 3 := ⟨by decide, rf_gl 559 rfl rfl, rf_gl 560 rfl rfl, rf_gl 83 rfl rfl, rf_gl 561 rfl rfl, by decide +kernel⟩
set_option maxRecDepth 40000 in
theorem mi_X7_bestRota : rfMi RX7 yX7_bestRota cX7_bestRota 3 (some .int) 2 := ⟨by decide, rf_gl 565 rfl rfl, rf_gl 566 rfl rfl, rf_gl 83 rfl rfl, rf_gl 567 rfl rfl, by decide +kernel⟩
set_option maxRecDepth 40000 in
theorem mi_X7_told : rfMi RX7 yX7_told cX7_told 8 (some .int) 3 := ⟨by decide, rf_gl 583 rfl rfl, rf_gl 584 rfl rfl, rf_gl 83 rfl rfl, rf_gl 585 rfl rfl, by decide +kernel⟩
set_option maxRecDepth 40000 in
theorem mi_X7_knownByGroup : rfMi RX7 yX7_knownByGroup cX7_knownByGroup 4 (some .int) 1 := ⟨by decide, rf_gl 588 rfl rfl, rf_gl 17 rfl rfl, rf_gl 83 rfl rfl, rf_gl 589 rfl rfl, by decide +kernel⟩
set_option maxRecDepth 40000 in
theorem mi_X7_apart : rfMi RX7 yX7_apart cX7_apart 2 (some .int) 1 := ⟨by decide, rf_gl 598 rfl rfl, rf_gl 599 rfl rfl, rf_gl 83 rfl rfl, rf_gl 600 rfl rfl, by decide +kernel⟩
set_option maxRecDepth 40000 in
theorem mi_X7_fewestApart : rfMi RX7 yX7_fewestApart cX7_fewestApart 3 (some .int) 0 := ⟨by decide, rf_gl 603 rfl rfl, rf_gl 18 rfl rfl, rf_gl 83 rfl rfl, rf_gl 604 rfl rfl, by decide +kernel⟩
set_option maxRecDepth 40000 in
theorem mi_X7_areToldApart : rfMi RX7 yX7_areToldApart cX7_areToldApart 4 (some .boolean) 1 := ⟨by decide, rf_gl 607 rfl rfl, rf_gl 19 rfl rfl, rf_gl 83 rfl rfl, rf_gl 608 rfl rfl, by decide +kernel⟩
set_option maxRecDepth 40000 in
theorem mi_X7_knownByAll : rfMi RX7 yX7_knownByAll cX7_knownByAll 3 (some .int) 0 := ⟨by decide, rf_gl 611 rfl rfl, rf_gl 20 rfl rfl, rf_gl 83 rfl rfl, rf_gl 612 rfl rfl, by decide +kernel⟩
set_option maxRecDepth 40000 in
theorem ms_X7_fewer : rfMs yX7_fewer cX7_fewer 2 (some .int) 2 := ⟨by decide, rf_gl 591 rfl rfl, rf_gl 83 rfl rfl, rf_gl 592 rfl rfl, by decide +kernel⟩
set_option maxRecDepth 40000 in
theorem ms_X7_manyOrWhich : rfMs yX7_manyOrWhich cX7_manyOrWhich 2 (some .int) 2 := ⟨by decide, rf_gl 595 rfl rfl, rf_gl 83 rfl rfl, rf_gl 596 rfl rfl, by decide +kernel⟩
set_option maxRecDepth 40000 in
theorem mi_X7_week : rfMi RX7 yX7_week cX7_week 2 (some .int) 1 := ⟨by decide, rf_gl 614 rfl rfl, rf_gl 615 rfl rfl, rf_gl 83 rfl rfl, rf_gl 616 rfl rfl, by decide +kernel⟩
set_option maxRecDepth 40000 in
theorem mi_X7_fire : rfMi RX7 yX7_fire cX7_fire 2 (some .int) 1 := ⟨by decide, rf_gl 633 rfl rfl, rf_gl 634 rfl rfl, rf_gl 83 rfl rfl, rf_gl 635 rfl rfl, by decide +kernel⟩
set_option maxRecDepth 40000 in
theorem mi_X7_firstOut : rfMi RX7 yX7_firstOut cX7_firstOut 1 (some .int) 0 := ⟨by decide, rf_gl 646 rfl rfl, rf_gl 24 rfl rfl, rf_gl 83 rfl rfl, rf_gl 647 rfl rfl, by decide +kernel⟩
set_option maxRecDepth 40000 in
theorem mi_X7_judge : rfMi RX7 yX7_judge cX7_judge 4 (some .int) 2 := ⟨by decide, rf_gl 650 rfl rfl, rf_gl 651 rfl rfl, rf_gl 83 rfl rfl, rf_gl 652 rfl rfl, by decide +kernel⟩
set_option maxRecDepth 40000 in
theorem mi_X7_fits : rfMi RX7 yX7_fits cX7_fits 14 (some .int) 3 := ⟨by decide, rf_gl 666 rfl rfl, rf_gl 667 rfl rfl, rf_gl 83 rfl rfl, rf_gl 668 rfl rfl, by decide +kernel⟩
set_option maxRecDepth 40000 in
theorem mi_X7_areShelves : rfMi RX7 yX7_areShelves cX7_areShelves 2 (some .boolean) 1 := ⟨by decide, rf_gl 655 rfl rfl, rf_gl 25 rfl rfl, rf_gl 83 rfl rfl, rf_gl 656 rfl rfl, by decide +kernel⟩
set_option maxRecDepth 40000 in
theorem mi_X7_areBrothers : rfMi RX7 yX7_areBrothers cX7_areBrothers 2 (some .boolean) 1 := ⟨by decide, rf_gl 671 rfl rfl, rf_gl 28 rfl rfl, rf_gl 83 rfl rfl, rf_gl 672 rfl rfl, by decide +kernel⟩
set_option maxRecDepth 40000 in
theorem mi_X7_refusalOfDebts : rfMi RX7 yX7_refusalOfDebts cX7_refusalOfDebts 3 (some .int) 1 := ⟨by decide, rf_gl 659 rfl rfl, rf_gl 26 rfl rfl, rf_gl 83 rfl rfl, rf_gl 660 rfl rfl, by decide +kernel⟩
set_option maxRecDepth 40000 in
theorem mi_X7_firstNotSo : rfMi RX7 yX7_firstNotSo cX7_firstNotSo 10 (some .int) 4 := ⟨by decide, rf_gl 663 rfl rfl, rf_gl 27 rfl rfl, rf_gl 83 rfl rfl, rf_gl 664 rfl rfl, by decide +kernel⟩
set_option maxRecDepth 40000 in
theorem mi_X7_byTurns : rfMi RX7 yX7_byTurns cX7_byTurns 5 (some .int) 3 := ⟨by decide, rf_gl 674 rfl rfl, rf_gl 675 rfl rfl, rf_gl 83 rfl rfl, rf_gl 676 rfl rfl, by decide +kernel⟩
set_option maxRecDepth 40000 in
theorem mi_X7_drawn : rfMi RX7 yX7_drawn cX7_drawn 7 (some .int) 3 := ⟨by decide, rf_gl 692 rfl rfl, rf_gl 693 rfl rfl, rf_gl 83 rfl rfl, rf_gl 694 rfl rfl, by decide +kernel⟩
set_option maxRecDepth 40000 in
theorem mi_X7_day : rfMi RX7 yX7_day cX7_day 3 (some .int) 1 := ⟨by decide, rf_gl 705 rfl rfl, rf_gl 706 rfl rfl, rf_gl 83 rfl rfl, rf_gl 707 rfl rfl, by decide +kernel⟩
set_option maxRecDepth 40000 in
theorem mi_X7_tells : rfMi RX7 yX7_tells cX7_tells 4 (some .int) 2 := ⟨by decide, rf_gl 711 rfl rfl, rf_gl 712 rfl rfl, rf_gl 83 rfl rfl, rf_gl 713 rfl rfl, by decide +kernel⟩
set_option maxRecDepth 40000 in
theorem mi_X7_pays : rfMi RX7 yX7_pays cX7_pays 4 (some .int) 3 := ⟨by decide, rf_gl 719 rfl rfl, rf_gl 720 rfl rfl, rf_gl 83 rfl rfl, rf_gl 721 rfl rfl, by decide +kernel⟩
set_option maxRecDepth 40000 in
theorem mi_X7_areTwo : rfMi RX7 yX7_areTwo cX7_areTwo 3 (some .boolean) 2 := ⟨by decide, rf_gl 716 rfl rfl, rf_gl 32 rfl rfl, rf_gl 83 rfl rfl, rf_gl 717 rfl rfl, by decide +kernel⟩
set_option maxRecDepth 40000 in
theorem mi_X7_cobble : rfMi RX7 yX7_cobble cX7_cobble 2 (some .int) 0 := ⟨by decide, rf_gl 723 rfl rfl, rf_gl 724 rfl rfl, rf_gl 83 rfl rfl, rf_gl 725 rfl rfl, by decide +kernel⟩
set_option maxRecDepth 40000 in
theorem mi_X7_led : rfMi RX7 yX7_led cX7_led 2 (some .int) 1 := ⟨by decide, rf_gl 727 rfl rfl, rf_gl 728 rfl rfl, rf_gl 83 rfl rfl, rf_gl 729 rfl rfl, by decide +kernel⟩
set_option maxRecDepth 40000 in
theorem mi_X7_image : rfMi RX7 yX7_image cX7_image 1 (some .int) 0 := ⟨by decide, rf_gl 731 rfl rfl, rf_gl 732 rfl rfl, rf_gl 83 rfl rfl, rf_gl 733 rfl rfl, by decide +kernel⟩
set_option maxRecDepth 40000 in
theorem mi_X7_back : rfMi RX7 yX7_back cX7_back 1 (some .int) 0 := ⟨by decide, rf_gl 737 rfl rfl, rf_gl 738 rfl rfl, rf_gl 83 rfl rfl, rf_gl 739 rfl rfl, by decide +kernel⟩
set_option maxRecDepth 40000 in
theorem mi_X7_undo : rfMi RX7 yX7_undo cX7_undo 2 (some .int) 0 := ⟨by decide, rf_gl 741 rfl rfl, rf_gl 742 rfl rfl, rf_gl 83 rfl rfl, rf_gl 743 rfl rfl, by decide +kernel⟩
set_option maxRecDepth 40000 in
theorem mi_X7_redo : rfMi RX7 yX7_redo cX7_redo 2 (some .int) 0 := ⟨by decide, rf_gl 745 rfl rfl, rf_gl 746 rfl rfl, rf_gl 83 rfl rfl, rf_gl 747 rfl rfl, by decide +kernel⟩
set_option maxRecDepth 40000 in
theorem mi_X7_body : rfMi RX7 yX7_body cX7_body 2 (some .int) 1 := ⟨by decide, rf_gl 749 rfl rfl, rf_gl 750 rfl rfl, rf_gl 83 rfl rfl, rf_gl 751 rfl rfl, by decide +kernel⟩
set_option maxRecDepth 40000 in
theorem mi_X7_act : rfMi RX7 yX7_act cX7_act 4 (some .int) 3 := ⟨by decide, rf_gl 757 rfl rfl, rf_gl 758 rfl rfl, rf_gl 83 rfl rfl, rf_gl 759 rfl rfl, by decide +kernel⟩
set_option maxRecDepth 40000 in
theorem mi_X7_trace : rfMi RX7 yX7_trace cX7_trace 2 (some .int) 1 := ⟨by decide, rf_gl 782 rfl rfl, rf_gl 783 rfl rfl, rf_gl 83 rfl rfl, rf_gl 784 rfl rfl, by decide +kernel⟩
set_option maxRecDepth 40000 in
theorem mi_X7_keep : rfMi RX7 yX7_keep cX7_keep 3 (some .int) 2 := ⟨by decide, rf_gl 786 rfl rfl, rf_gl 787 rfl rfl, rf_gl 83 rfl rfl, rf_gl 788 rfl rfl, by decide +kernel⟩
set_option maxRecDepth 40000 in
theorem mi_X7_row : rfMi RX7 yX7_row cX7_row 4 (some .int) 3 := ⟨by decide, rf_gl 790 rfl rfl, rf_gl 791 rfl rfl, rf_gl 83 rfl rfl, rf_gl 792 rfl rfl, by decide +kernel⟩
set_option maxRecDepth 40000 in
theorem mi_X7_put : rfMi RX7 yX7_put cX7_put 6 (some .int) 3 := ⟨by decide, rf_gl 798 rfl rfl, rf_gl 799 rfl rfl, rf_gl 83 rfl rfl, rf_gl 800 rfl rfl, by decide +kernel⟩
set_option maxRecDepth 40000 in
theorem mi_X7_element : rfMi RX7 yX7_element cX7_element 3 (some .long) 2 := ⟨by decide, rf_gl 810 rfl rfl, rf_gl 811 rfl rfl, rf_gl 83 rfl rfl, rf_gl 812 rfl rfl, by decide +kernel⟩
set_option maxRecDepth 40000 in
theorem mi_X7_refusalOfPlace : rfMi RX7 yX7_refusalOfPlace cX7_refusalOfPlace 4 (some .int) 2 := ⟨by decide, rf_gl 803 rfl rfl, rf_gl 36 rfl rfl, rf_gl 83 rfl rfl, rf_gl 804 rfl rfl, by decide +kernel⟩
set_option maxRecDepth 40000 in
theorem mi_X7_shift : rfMi RX7 yX7_shift cX7_shift 8 (some .int) 5 := ⟨by decide, rf_gl 815 rfl rfl, rf_gl 816 rfl rfl, rf_gl 83 rfl rfl, rf_gl 817 rfl rfl, by decide +kernel⟩
set_option maxRecDepth 40000 in
theorem mi_X7_taken : rfMi RX7 yX7_taken cX7_taken 4 (some .int) 2 := ⟨by decide, rf_gl 823 rfl rfl, rf_gl 824 rfl rfl, rf_gl 83 rfl rfl, rf_gl 825 rfl rfl, by decide +kernel⟩
set_option maxRecDepth 40000 in
theorem mi_X7_count : rfMi RX7 yX7_count cX7_count 2 (some .int) 1 := ⟨by decide, rf_gl 830 rfl rfl, rf_gl 831 rfl rfl, rf_gl 83 rfl rfl, rf_gl 832 rfl rfl, by decide +kernel⟩
set_option maxRecDepth 40000 in
theorem mi_X7_isBody : rfMi RX7 yX7_isBody cX7_isBody 2 (some .boolean) 1 := ⟨by decide, rf_gl 762 rfl rfl, rf_gl 33 rfl rfl, rf_gl 83 rfl rfl, rf_gl 763 rfl rfl, by decide +kernel⟩
set_option maxRecDepth 40000 in
theorem ms_X7_isShelf : rfMs yX7_isShelf cX7_isShelf 1 (some .boolean) 1 := ⟨by decide, rf_gl 375 rfl rfl, rf_gl 83 rfl rfl, rf_gl 376 rfl rfl, by decide +kernel⟩
set_option maxRecDepth 40000 in
theorem ms_X7_isWithin : rfMs yX7_isWithin cX7_isWithin 3 (some .boolean) 3 := ⟨by decide, rf_gl 364 rfl rfl, rf_gl 83 rfl rfl, rf_gl 365 rfl rfl, by decide +kernel⟩
set_option maxRecDepth 40000 in
theorem ms_X8_within : rfMs yX8_within cX8_within 3 (some .boolean) 3 := ⟨by decide, rf_gl 974 rfl rfl, rf_gl 91 rfl rfl, rf_gl 975 rfl rfl, by decide +kernel⟩
set_option maxRecDepth 40000 in
theorem mi_X8_isOne : rfMi RX8 yX8_isOne cX8_isOne 2 (some .boolean) 1 := ⟨by decide, rf_gl 1002 rfl rfl, rf_gl 40 rfl rfl, rf_gl 91 rfl rfl, rf_gl 1003 rfl rfl, by decide +kernel⟩
set_option maxRecDepth 40000 in
theorem ms_X8_isShelf : rfMs yX8_isShelf cX8_isShelf 1 (some .boolean) 1 := ⟨by decide, rf_gl 985 rfl rfl, rf_gl 91 rfl rfl, rf_gl 986 rfl rfl, by decide +kernel⟩
set_option maxRecDepth 40000 in
theorem ms_X8_has : rfMs yX8_has cX8_has 2 (some .boolean) 2 := ⟨by decide, rf_gl 1099 rfl rfl, rf_gl 91 rfl rfl, rf_gl 1100 rfl rfl, by decide +kernel⟩
set_option maxRecDepth 40000 in
theorem mi_X8_newOne : rfMi RX8 yX8_newOne cX8_newOne 4 (some .int) 3 := ⟨by decide, rf_gl 978 rfl rfl, rf_gl 37 rfl rfl, rf_gl 91 rfl rfl, rf_gl 979 rfl rfl, by decide +kernel⟩
set_option maxRecDepth 40000 in
theorem mi_X8_brother : rfMi RX8 yX8_brother cX8_brother 2 (some .int) 1 := ⟨by decide, rf_gl 970 rfl rfl, rf_gl 971 rfl rfl, rf_gl 91 rfl rfl, rf_gl 972 rfl rfl, by decide +kernel⟩
set_option maxRecDepth 40000 in
theorem mi_X8_brothers : rfMi RX8 yX8_brothers cX8_brothers 9 (some .int) 3 := ⟨by decide, rf_gl 981 rfl rfl, rf_gl 982 rfl rfl, rf_gl 91 rfl rfl, rf_gl 983 rfl rfl, by decide +kernel⟩
set_option maxRecDepth 40000 in
theorem mi_X8_toldAt : rfMi RX8 yX8_toldAt cX8_toldAt 3 (some .int) 2 := ⟨by decide, rf_gl 990 rfl rfl, rf_gl 38 rfl rfl, rf_gl 91 rfl rfl, rf_gl 991 rfl rfl, by decide +kernel⟩
set_option maxRecDepth 40000 in
theorem mi_X8_isOf : rfMi RX8 yX8_isOf cX8_isOf 3 (some .boolean) 2 := ⟨by decide, rf_gl 998 rfl rfl, rf_gl 39 rfl rfl, rf_gl 91 rfl rfl, rf_gl 999 rfl rfl, by decide +kernel⟩
set_option maxRecDepth 40000 in
theorem ms_X8_isFit : rfMs yX8_isFit cX8_isFit 2 (some .boolean) 2 := ⟨by decide, rf_gl 1005 rfl rfl, rf_gl 91 rfl rfl, rf_gl 1006 rfl rfl, by decide +kernel⟩
set_option maxRecDepth 40000 in
theorem mi_X8_get : rfMi RX8 yX8_get cX8_get 3 (some .int) 2 := ⟨by decide, rf_gl 1009 rfl rfl, rf_gl 41 rfl rfl, rf_gl 91 rfl rfl, rf_gl 1010 rfl rfl, by decide +kernel⟩
set_option maxRecDepth 40000 in
theorem mi_X8_becomes : rfMi RX8 yX8_becomes cX8_becomes 4 none 3 := ⟨by decide, rf_gl 1013 rfl rfl, rf_gl 42 rfl rfl, rf_gl 91 rfl rfl, rf_gl 1014 rfl rfl, by decide +kernel⟩
set_option maxRecDepth 40000 in
theorem mi_X8_mend : rfMi RX8 yX8_mend cX8_mend 6 (some .int) 3 := ⟨by decide, rf_gl 993 rfl rfl, rf_gl 994 rfl rfl, rf_gl 91 rfl rfl, rf_gl 995 rfl rfl, by decide +kernel⟩
set_option maxRecDepth 40000 in
theorem mi_X8_of : rfMi RX8 yX8_of cX8_of 3 (some .int) 2 := ⟨by decide, rf_gl 1016 rfl rfl, rf_gl 1017 rfl rfl, rf_gl 91 rfl rfl, rf_gl 1018 rfl rfl, by decide +kernel⟩
set_option maxRecDepth 40000 in
theorem mi_X8_undo : rfMi RX8 yX8_undo cX8_undo 1 (some .int) 0 := ⟨by decide, rf_gl 1020 rfl rfl, rf_gl 1021 rfl rfl, rf_gl 91 rfl rfl, rf_gl 1022 rfl rfl, by decide +kernel⟩
set_option maxRecDepth 40000 in
theorem mi_X8_redo : rfMi RX8 yX8_redo cX8_redo 1 (some .int) 0 := ⟨by decide, rf_gl 1024 rfl rfl, rf_gl 1025 rfl rfl, rf_gl 91 rfl rfl, rf_gl 1026 rfl rfl, by decide +kernel⟩
set_option maxRecDepth 40000 in
theorem mi_X8_feed : rfMi RX8 yX8_feed cX8_feed 2 (some .int) 1 := ⟨by decide, rf_gl 1028 rfl rfl, rf_gl 1029 rfl rfl, rf_gl 91 rfl rfl, rf_gl 1030 rfl rfl, by decide +kernel⟩
set_option maxRecDepth 40000 in
theorem mi_X8_sign : rfMi RX8 yX8_sign cX8_sign 1 (some .int) 0 := ⟨by decide, rf_gl 1069 rfl rfl, rf_gl 51 rfl rfl, rf_gl 91 rfl rfl, rf_gl 1070 rfl rfl, by decide +kernel⟩
set_option maxRecDepth 40000 in
theorem mi_X8_is : rfMi RX8 yX8_is cX8_is 2 (some .boolean) 1 := ⟨by decide, rf_gl 1080 rfl rfl, rf_gl 53 rfl rfl, rf_gl 91 rfl rfl, rf_gl 1081 rfl rfl, by decide +kernel⟩
set_option maxRecDepth 40000 in
theorem mi_X8_codes : rfMi RX8 yX8_codes cX8_codes 2 (some .boolean) 1 := ⟨by decide, rf_gl 1073 rfl rfl, rf_gl 52 rfl rfl, rf_gl 91 rfl rfl, rf_gl 1074 rfl rfl, by decide +kernel⟩
set_option maxRecDepth 40000 in
theorem mi_X8_isDigit : rfMi RX8 yX8_isDigit cX8_isDigit 1 (some .boolean) 0 := ⟨by decide, rf_gl 1065 rfl rfl, rf_gl 50 rfl rfl, rf_gl 91 rfl rfl, rf_gl 1066 rfl rfl, by decide +kernel⟩
set_option maxRecDepth 40000 in
theorem ms_X8_nameOf : rfMs yX8_nameOf cX8_nameOf 1 (some .int) 1 := ⟨by decide, rf_gl 1076 rfl rfl, rf_gl 91 rfl rfl, rf_gl 1077 rfl rfl, by decide +kernel⟩
set_option maxRecDepth 40000 in
theorem mi_X8_isO : rfMi RX8 yX8_isO cX8_isO 3 (some .boolean) 0 := ⟨by decide, rf_gl 1061 rfl rfl, rf_gl 49 rfl rfl, rf_gl 91 rfl rfl, rf_gl 1062 rfl rfl, by decide +kernel⟩
set_option maxRecDepth 40000 in
theorem mi_X8_isP : rfMi RX8 yX8_isP cX8_isP 2 (some .boolean) 0 := ⟨by decide, rf_gl 1057 rfl rfl, rf_gl 48 rfl rfl, rf_gl 91 rfl rfl, rf_gl 1058 rfl rfl, by decide +kernel⟩
set_option maxRecDepth 40000 in
theorem mi_X8_isS : rfMi RX8 yX8_isS cX8_isS 2 (some .boolean) 0 := ⟨by decide, rf_gl 1053 rfl rfl, rf_gl 47 rfl rfl, rf_gl 91 rfl rfl, rf_gl 1054 rfl rfl, by decide +kernel⟩
set_option maxRecDepth 40000 in
theorem mi_X8_isB : rfMi RX8 yX8_isB cX8_isB 2 (some .boolean) 0 := ⟨by decide, rf_gl 1049 rfl rfl, rf_gl 46 rfl rfl, rf_gl 91 rfl rfl, rf_gl 1050 rfl rfl, by decide +kernel⟩
set_option maxRecDepth 40000 in
theorem mi_X8_isA : rfMi RX8 yX8_isA cX8_isA 1 (some .boolean) 0 := ⟨by decide, rf_gl 1045 rfl rfl, rf_gl 45 rfl rfl, rf_gl 91 rfl rfl, rf_gl 1046 rfl rfl, by decide +kernel⟩
set_option maxRecDepth 40000 in
theorem mi_X8_isE : rfMi RX8 yX8_isE cX8_isE 1 (some .boolean) 0 := ⟨by decide, rf_gl 1041 rfl rfl, rf_gl 44 rfl rfl, rf_gl 91 rfl rfl, rf_gl 1042 rfl rfl, by decide +kernel⟩
set_option maxRecDepth 40000 in
theorem mi_X8_isLine : rfMi RX8 yX8_isLine cX8_isLine 1 (some .boolean) 0 := ⟨by decide, rf_gl 1037 rfl rfl, rf_gl 43 rfl rfl, rf_gl 91 rfl rfl, rf_gl 1038 rfl rfl, by decide +kernel⟩
set_option maxRecDepth 40000 in
theorem mi_X8_law : rfMi RX8 yX8_law cX8_law 4 (some .int) 0 := ⟨by decide, rf_gl 1032 rfl rfl, rf_gl 1033 rfl rfl, rf_gl 91 rfl rfl, rf_gl 1034 rfl rfl, by decide +kernel⟩
set_option maxRecDepth 40000 in
theorem ms_X8_both : rfMs yX8_both cX8_both 3 (some .int) 3 := ⟨by decide, rf_gl 1107 rfl rfl, rf_gl 91 rfl rfl, rf_gl 1108 rfl rfl, by decide +kernel⟩
set_option maxRecDepth 40000 in
theorem mi_X8_worked : rfMi RX8 yX8_worked cX8_worked 6 (some .int) 2 := ⟨by decide, rf_gl 1104 rfl rfl, rf_gl 57 rfl rfl, rf_gl 91 rfl rfl, rf_gl 1105 rfl rfl, by decide +kernel⟩
set_option maxRecDepth 40000 in
theorem mi_X8_wants : rfMi RX8 yX8_wants cX8_wants 3 (some .boolean) 2 := ⟨by decide, rf_gl 1096 rfl rfl, rf_gl 56 rfl rfl, rf_gl 91 rfl rfl, rf_gl 1097 rfl rfl, by decide +kernel⟩
set_option maxRecDepth 40000 in
theorem mi_X8_byLaw : rfMi RX8 yX8_byLaw cX8_byLaw 4 (some .int) 1 := ⟨by decide, rf_gl 1092 rfl rfl, rf_gl 55 rfl rfl, rf_gl 91 rfl rfl, rf_gl 1093 rfl rfl, by decide +kernel⟩
set_option maxRecDepth 40000 in
theorem mi_X8_doneBy : rfMi RX8 yX8_doneBy cX8_doneBy 4 (some .int) 1 := ⟨by decide, rf_gl 1088 rfl rfl, rf_gl 54 rfl rfl, rf_gl 91 rfl rfl, rf_gl 1089 rfl rfl, by decide +kernel⟩
set_option maxRecDepth 40000 in
theorem mi_X8_does : rfMi RX8 yX8_does cX8_does 2 (some .int) 1 := ⟨by decide, rf_gl 1083 rfl rfl, rf_gl 1084 rfl rfl, rf_gl 91 rfl rfl, rf_gl 1085 rfl rfl, by decide +kernel⟩
set_option maxRecDepth 40000 in
theorem mi_X8_passes : rfMi RX8 yX8_passes cX8_passes 5 (some .int) 1 := ⟨by decide, rf_gl 1133 rfl rfl, rf_gl 62 rfl rfl, rf_gl 91 rfl rfl, rf_gl 1134 rfl rfl, by decide +kernel⟩
set_option maxRecDepth 40000 in
theorem mi_X8_keeps : rfMi RX8 yX8_keeps cX8_keeps 3 none 1 := ⟨by decide, rf_gl 1121 rfl rfl, rf_gl 59 rfl rfl, rf_gl 91 rfl rfl, rf_gl 1122 rfl rfl, by decide +kernel⟩
set_option maxRecDepth 40000 in
theorem mi_X8_laysBack : rfMi RX8 yX8_laysBack cX8_laysBack 3 none 1 := ⟨by decide, rf_gl 1141 rfl rfl, rf_gl 64 rfl rfl, rf_gl 91 rfl rfl, rf_gl 1142 rfl rfl, by decide +kernel⟩
set_option maxRecDepth 40000 in
theorem mi_X8_allOwed : rfMi RX8 yX8_allOwed cX8_allOwed 3 (some .int) 0 := ⟨by decide, rf_gl 1137 rfl rfl, rf_gl 63 rfl rfl, rf_gl 91 rfl rfl, rf_gl 1138 rfl rfl, by decide +kernel⟩
set_option maxRecDepth 40000 in
theorem mi_X8_noBytes : rfMi RX8 yX8_noBytes cX8_noBytes 2 (some .int) 1 := ⟨by decide, rf_gl 1117 rfl rfl, rf_gl 58 rfl rfl, rf_gl 91 rfl rfl, rf_gl 1118 rfl rfl, by decide +kernel⟩
set_option maxRecDepth 40000 in
theorem mi_X8_daysOf : rfMi RX8 yX8_daysOf cX8_daysOf 3 (some .int) 1 := ⟨by decide, rf_gl 1129 rfl rfl, rf_gl 61 rfl rfl, rf_gl 91 rfl rfl, rf_gl 1130 rfl rfl, by decide +kernel⟩
set_option maxRecDepth 40000 in
theorem mi_X8_goes : rfMi RX8 yX8_goes cX8_goes 6 (some .int) 2 := ⟨by decide, rf_gl 1125 rfl rfl, rf_gl 60 rfl rfl, rf_gl 91 rfl rfl, rf_gl 1126 rfl rfl, by decide +kernel⟩
set_option maxRecDepth 40000 in
theorem mi_X8_later : rfMi RX8 yX8_later cX8_later 8 (some .int) 4 := ⟨by decide, rf_gl 1112 rfl rfl, rf_gl 1113 rfl rfl, rf_gl 91 rfl rfl, rf_gl 1114 rfl rfl, by decide +kernel⟩
set_option maxRecDepth 40000 in
theorem mi_X8_deep : rfMi RX8 yX8_deep cX8_deep 8 (some .int) 3 := ⟨by decide, rf_gl 1144 rfl rfl, rf_gl 1145 rfl rfl, rf_gl 91 rfl rfl, rf_gl 1146 rfl rfl, by decide +kernel⟩
set_option maxRecDepth 40000 in
theorem mi_X8_tries : rfMi RX8 yX8_tries cX8_tries 6 none 2 := ⟨by decide, rf_gl 1153 rfl rfl, rf_gl 65 rfl rfl, rf_gl 91 rfl rfl, rf_gl 1154 rfl rfl, by decide +kernel⟩
set_option maxRecDepth 40000 in
theorem mi_X8_bestRota : rfMi RX8 yX8_bestRota cX8_bestRota 3 (some .int) 2 := ⟨by decide, rf_gl 1148 rfl rfl, rf_gl 1149 rfl rfl, rf_gl 91 rfl rfl, rf_gl 1150 rfl rfl, by decide +kernel⟩
set_option maxRecDepth 40000 in
theorem mi_X8_knownBy : rfMi RX8 yX8_knownBy cX8_knownBy 4 (some .int) 1 := ⟨by decide, rf_gl 1161 rfl rfl, rf_gl 66 rfl rfl, rf_gl 91 rfl rfl, rf_gl 1162 rfl rfl, by decide +kernel⟩
set_option maxRecDepth 40000 in
theorem mi_X8_told : rfMi RX8 yX8_told cX8_told 6 (some .int) 3 := ⟨by decide, rf_gl 1156 rfl rfl, rf_gl 1157 rfl rfl, rf_gl 91 rfl rfl, rf_gl 1158 rfl rfl, by decide +kernel⟩
set_option maxRecDepth 40000 in
theorem mi_X8_parts : rfMi RX8 yX8_parts cX8_parts 4 (some .boolean) 1 := ⟨by decide, rf_gl 1169 rfl rfl, rf_gl 67 rfl rfl, rf_gl 91 rfl rfl, rf_gl 1170 rfl rfl, by decide +kernel⟩
set_option maxRecDepth 40000 in
theorem mi_X8_apart : rfMi RX8 yX8_apart cX8_apart 5 (some .int) 1 := ⟨by decide, rf_gl 1164 rfl rfl, rf_gl 1165 rfl rfl, rf_gl 91 rfl rfl, rf_gl 1166 rfl rfl, by decide +kernel⟩
set_option maxRecDepth 40000 in
theorem mi_X8_deals : rfMi RX8 yX8_deals cX8_deals 5 none 3 := ⟨by decide, rf_gl 1177 rfl rfl, rf_gl 68 rfl rfl, rf_gl 91 rfl rfl, rf_gl 1178 rfl rfl, by decide +kernel⟩
set_option maxRecDepth 40000 in
theorem mi_X8_week : rfMi RX8 yX8_week cX8_week 2 (some .int) 1 := ⟨by decide, rf_gl 1172 rfl rfl, rf_gl 1173 rfl rfl, rf_gl 91 rfl rfl, rf_gl 1174 rfl rfl, by decide +kernel⟩
set_option maxRecDepth 40000 in
theorem mi_X8_slow : rfMi RX8 yX8_slow cX8_slow 2 (some .int) 1 := ⟨by decide, rf_gl 1193 rfl rfl, rf_gl 71 rfl rfl, rf_gl 91 rfl rfl, rf_gl 1194 rfl rfl, by decide +kernel⟩
set_option maxRecDepth 40000 in
theorem mi_X8_goOut : rfMi RX8 yX8_goOut cX8_goOut 8 (some .int) 3 := ⟨by decide, rf_gl 1189 rfl rfl, rf_gl 70 rfl rfl, rf_gl 91 rfl rfl, rf_gl 1190 rfl rfl, by decide +kernel⟩
set_option maxRecDepth 40000 in
theorem mi_X8_burns : rfMi RX8 yX8_burns cX8_burns 6 none 0 := ⟨by decide, rf_gl 1185 rfl rfl, rf_gl 69 rfl rfl, rf_gl 91 rfl rfl, rf_gl 1186 rfl rfl, by decide +kernel⟩
set_option maxRecDepth 40000 in
theorem mi_X8_fire : rfMi RX8 yX8_fire cX8_fire 4 (some .int) 1 := ⟨by decide, rf_gl 1180 rfl rfl, rf_gl 1181 rfl rfl, rf_gl 91 rfl rfl, rf_gl 1182 rfl rfl, by decide +kernel⟩
set_option maxRecDepth 40000 in
theorem mi_X8_noDebts : rfMi RX8 yX8_noDebts cX8_noDebts 3 (some .int) 1 := ⟨by decide, rf_gl 1201 rfl rfl, rf_gl 72 rfl rfl, rf_gl 91 rfl rfl, rf_gl 1202 rfl rfl, by decide +kernel⟩
set_option maxRecDepth 40000 in
theorem mi_X8_unlike : rfMi RX8 yX8_unlike cX8_unlike 8 (some .int) 2 := ⟨by decide, rf_gl 1205 rfl rfl, rf_gl 73 rfl rfl, rf_gl 91 rfl rfl, rf_gl 1206 rfl rfl, by decide +kernel⟩
set_option maxRecDepth 40000 in
theorem mi_X8_judge : rfMi RX8 yX8_judge cX8_judge 4 (some .int) 2 := ⟨by decide, rf_gl 1196 rfl rfl, rf_gl 1197 rfl rfl, rf_gl 91 rfl rfl, rf_gl 1198 rfl rfl, by decide +kernel⟩
set_option maxRecDepth 40000 in
theorem mi_X8_fits : rfMi RX8 yX8_fits cX8_fits 10 (some .int) 3 := ⟨by decide, rf_gl 1208 rfl rfl, rf_gl 1209 rfl rfl, rf_gl 91 rfl rfl, rf_gl 1210 rfl rfl, by decide +kernel⟩
set_option maxRecDepth 40000 in
theorem mi_X8_turnFrom : rfMi RX8 yX8_turnFrom cX8_turnFrom 6 (some .int) 3 := ⟨by decide, rf_gl 1222 rfl rfl, rf_gl 75 rfl rfl, rf_gl 91 rfl rfl, rf_gl 1223 rfl rfl, by decide +kernel⟩
set_option maxRecDepth 40000 in
theorem mi_X8_turnBy : rfMi RX8 yX8_turnBy cX8_turnBy 15 (some .int) 4 := ⟨by decide, rf_gl 1218 rfl rfl, rf_gl 74 rfl rfl, rf_gl 91 rfl rfl, rf_gl 1219 rfl rfl, by decide +kernel⟩
set_option maxRecDepth 40000 in
theorem mi_X8_byTurns : rfMi RX8 yX8_byTurns cX8_byTurns 6 (some .int) 3 := ⟨by decide, rf_gl 1212 rfl rfl, rf_gl 1213 rfl rfl, rf_gl 91 rfl rfl, rf_gl 1214 rfl rfl, by decide +kernel⟩
set_option maxRecDepth 40000 in
theorem mi_X8_drawn : rfMi RX8 yX8_drawn cX8_drawn 10 (some .int) 3 := ⟨by decide, rf_gl 1226 rfl rfl, rf_gl 1227 rfl rfl, rf_gl 91 rfl rfl, rf_gl 1228 rfl rfl, by decide +kernel⟩
set_option maxRecDepth 40000 in
theorem mi_X8_day : rfMi RX8 yX8_day cX8_day 3 (some .int) 1 := ⟨by decide, rf_gl 1231 rfl rfl, rf_gl 1232 rfl rfl, rf_gl 91 rfl rfl, rf_gl 1233 rfl rfl, by decide +kernel⟩
set_option maxRecDepth 40000 in
theorem mi_X8_tells : rfMi RX8 yX8_tells cX8_tells 4 (some .int) 2 := ⟨by decide, rf_gl 1235 rfl rfl, rf_gl 1236 rfl rfl, rf_gl 91 rfl rfl, rf_gl 1237 rfl rfl, by decide +kernel⟩
set_option maxRecDepth 40000 in
theorem mi_X8_pays : rfMi RX8 yX8_pays cX8_pays 4 (some .int) 3 := ⟨by decide, rf_gl 1239 rfl rfl, rf_gl 1240 rfl rfl, rf_gl 91 rfl rfl, rf_gl 1241 rfl rfl, by decide +kernel⟩
set_option maxRecDepth 40000 in
theorem mi_X8_cobble : rfMi RX8 yX8_cobble cX8_cobble 2 (some .int) 0 := ⟨by decide, rf_gl 1243 rfl rfl, rf_gl 1244 rfl rfl, rf_gl 91 rfl rfl, rf_gl 1245 rfl rfl, by decide +kernel⟩
set_option maxRecDepth 40000 in
theorem mi_X8_led : rfMi RX8 yX8_led cX8_led 2 (some .int) 1 := ⟨by decide, rf_gl 1247 rfl rfl, rf_gl 1248 rfl rfl, rf_gl 91 rfl rfl, rf_gl 1249 rfl rfl, by decide +kernel⟩
set_option maxRecDepth 40000 in
theorem mi_X8_image : rfMi RX8 yX8_image cX8_image 2 (some .int) 0 := ⟨by decide, rf_gl 1251 rfl rfl, rf_gl 1252 rfl rfl, rf_gl 91 rfl rfl, rf_gl 1253 rfl rfl, by decide +kernel⟩
set_option maxRecDepth 40000 in
theorem mi_X8_back : rfMi RX8 yX8_back cX8_back 2 (some .int) 0 := ⟨by decide, rf_gl 1255 rfl rfl, rf_gl 1256 rfl rfl, rf_gl 91 rfl rfl, rf_gl 1257 rfl rfl, by decide +kernel⟩
set_option maxRecDepth 40000 in
theorem ms_X8_above : rfMs yX8_above cX8_above 1 (some .int) 1 := ⟨by decide, rf_gl 1275 rfl rfl, rf_gl 91 rfl rfl, rf_gl 1276 rfl rfl, by decide +kernel⟩
set_option maxRecDepth 40000 in
theorem mi_X8_ran : rfMi RX8 yX8_ran cX8_ran 2 none 1 := ⟨by decide, rf_gl 1272 rfl rfl, rf_gl 77 rfl rfl, rf_gl 91 rfl rfl, rf_gl 1273 rfl rfl, by decide +kernel⟩
set_option maxRecDepth 40000 in
theorem mi_X8_walksBy : rfMi RX8 yX8_walksBy cX8_walksBy 4 (some .int) 3 := ⟨by decide, rf_gl 1268 rfl rfl, rf_gl 76 rfl rfl, rf_gl 91 rfl rfl, rf_gl 1269 rfl rfl, by decide +kernel⟩
set_option maxRecDepth 40000 in
theorem mi_X8_leansBy : rfMi RX8 yX8_leansBy cX8_leansBy 5 (some .int) 3 := ⟨by decide, rf_gl 1279 rfl rfl, rf_gl 78 rfl rfl, rf_gl 91 rfl rfl, rf_gl 1280 rfl rfl, by decide +kernel⟩
set_option maxRecDepth 40000 in
theorem mi_X8_owesBy : rfMi RX8 yX8_owesBy cX8_owesBy 5 (some .int) 3 := ⟨by decide, rf_gl 1283 rfl rfl, rf_gl 79 rfl rfl, rf_gl 91 rfl rfl, rf_gl 1284 rfl rfl, by decide +kernel⟩
set_option maxRecDepth 40000 in
theorem mi_X8_tells_ : rfMi RX8 yX8_tells_ cX8_tells_ 5 (some .int) 3 := ⟨by decide, rf_gl 1287 rfl rfl, rf_gl 80 rfl rfl, rf_gl 91 rfl rfl, rf_gl 1288 rfl rfl, by decide +kernel⟩
set_option maxRecDepth 40000 in
theorem mi_X8_body : rfMi RX8 yX8_body cX8_body 2 (some .int) 1 := ⟨by decide, rf_gl 1259 rfl rfl, rf_gl 1260 rfl rfl, rf_gl 91 rfl rfl, rf_gl 1261 rfl rfl, by decide +kernel⟩
set_option maxRecDepth 40000 in
theorem mi_X8_act : rfMi RX8 yX8_act cX8_act 5 (some .int) 3 := ⟨by decide, rf_gl 1263 rfl rfl, rf_gl 1264 rfl rfl, rf_gl 91 rfl rfl, rf_gl 1265 rfl rfl, by decide +kernel⟩
set_option maxRecDepth 40000 in
theorem mi_X8_trace : rfMi RX8 yX8_trace cX8_trace 2 (some .int) 1 := ⟨by decide, rf_gl 1290 rfl rfl, rf_gl 1291 rfl rfl, rf_gl 91 rfl rfl, rf_gl 1292 rfl rfl, by decide +kernel⟩
set_option maxRecDepth 40000 in
theorem mi_X8_keep : rfMi RX8 yX8_keep cX8_keep 3 (some .int) 2 := ⟨by decide, rf_gl 1294 rfl rfl, rf_gl 1295 rfl rfl, rf_gl 91 rfl rfl, rf_gl 1296 rfl rfl, by decide +kernel⟩
set_option maxRecDepth 40000 in
theorem mi_X8_row : rfMi RX8 yX8_row cX8_row 5 (some .int) 3 := ⟨by decide, rf_gl 1298 rfl rfl, rf_gl 1299 rfl rfl, rf_gl 91 rfl rfl, rf_gl 1300 rfl rfl, by decide +kernel⟩
set_option maxRecDepth 40000 in
theorem mi_X8_isRow : rfMi RX8 yX8_isRow cX8_isRow 2 (some .boolean) 1 := ⟨by decide, rf_gl 1307 rfl rfl, rf_gl 81 rfl rfl, rf_gl 91 rfl rfl, rf_gl 1308 rfl rfl, by decide +kernel⟩
set_option maxRecDepth 40000 in
theorem ms_X8_kept : rfMs yX8_kept cX8_kept 3 (some .long) 2 := ⟨by decide, rf_gl 1310 rfl rfl, rf_gl 91 rfl rfl, rf_gl 1311 rfl rfl, by decide +kernel⟩
set_option maxRecDepth 40000 in
theorem mi_X8_put : rfMi RX8 yX8_put cX8_put 5 (some .int) 3 := ⟨by decide, rf_gl 1302 rfl rfl, rf_gl 1303 rfl rfl, rf_gl 91 rfl rfl, rf_gl 1304 rfl rfl, by decide +kernel⟩
set_option maxRecDepth 40000 in
theorem mi_X8_element : rfMi RX8 yX8_element cX8_element 3 (some .long) 2 := ⟨by decide, rf_gl 1313 rfl rfl, rf_gl 1314 rfl rfl, rf_gl 91 rfl rfl, rf_gl 1315 rfl rfl, by decide +kernel⟩
set_option maxRecDepth 40000 in
theorem mi_X8_shift : rfMi RX8 yX8_shift cX8_shift 7 (some .int) 5 := ⟨by decide, rf_gl 1318 rfl rfl, rf_gl 1319 rfl rfl, rf_gl 91 rfl rfl, rf_gl 1320 rfl rfl, by decide +kernel⟩
set_option maxRecDepth 40000 in
theorem mi_X8_taken : rfMi RX8 yX8_taken cX8_taken 5 (some .int) 2 := ⟨by decide, rf_gl 1322 rfl rfl, rf_gl 1323 rfl rfl, rf_gl 91 rfl rfl, rf_gl 1324 rfl rfl, by decide +kernel⟩
set_option maxRecDepth 40000 in
theorem mi_X8_count : rfMi RX8 yX8_count cX8_count 2 (some .int) 1 := ⟨by decide, rf_gl 1326 rfl rfl, rf_gl 1327 rfl rfl, rf_gl 91 rfl rfl, rf_gl 1328 rfl rfl, by decide +kernel⟩
set_option maxRecDepth 40000 in
theorem ms_J6_bitCount_0f7a4 : rfMs yJ6_bitCount_0f7a4 cJ6_bitCount_0f7a4 1 (some .int) 1 := ⟨by decide, rf_gl 491 rfl rfl, rf_gl 93 rfl rfl, rf_gl 492 rfl rfl, by decide +kernel⟩
set_option maxRecDepth 40000 in
theorem mm_max : Cond.static Lib.Math.max.name ∈ rfG ∧ Cond.initialized "java/lang/Math" ∈ rfG ∧ Cond.code Lib.Math.max.name Lib.Math.max.code 2 (some .int) ∈ rfG := ⟨rf_gl 511 rfl rfl, rf_gl 94 rfl rfl, rf_gl 512 rfl rfl⟩
set_option maxRecDepth 40000 in
theorem mm_min : Cond.static Lib.Math.min.name ∈ rfG ∧ Cond.initialized "java/lang/Math" ∈ rfG ∧ Cond.code Lib.Math.min.name Lib.Math.min.code 2 (some .int) ∈ rfG := ⟨rf_gl 508 rfl rfl, rf_gl 94 rfl rfl, rf_gl 509 rfl rfl⟩
set_option maxRecDepth 40000 in
theorem mm_copy : Cond.native arraycopyName ∈ rfG ∧ Cond.static arraycopyName ∈ rfG ∧ Cond.initialized "java/lang/System" ∈ rfG := ⟨rf_gl 411 rfl rfl, rf_gl 410 rfl rfl, rf_gl 92 rfl rfl⟩
section RfCalls
variable {Λ : rfL} {d : Nat} {E : rfE} {y : MethodName} {cc : ByteArray} {nL : Nat} {ret : Option FieldType} {Q : Option Value → rfS → Prop} {pc pc2 : Nat} {ls ls2 : List (Nat × Value)} {st : List Value} {σ : rfS}
theorem Rf_cVi (X : rfX Λ E y cc nL ret) {ix n2 d2 nL2 : Nat} {y2 : MethodName} {cc2 : ByteArray} {ret2 : Option FieldType} {as stk : List Value} {Q2 : Int32 → rfS → Prop} {k ci : Nat} {C : String} {T : u_T} {N : Nat} (hm : rfMi C y2 cc2 nL2 ret2 n2) (hw : Cond.methodLink y.cls ix y2 ∈ rfG) (hcl : vwCl[ci]? = some (C, T, N)) (hk : k < Λ.1) (hkd : Λ.2.1 k = ci + 4) (hM : RM Λ d2 y2 cc2 nL2 ret2 (.ref k :: as) σ (qi Q2)) (hdd : d2 + 1 ≤ d) (hlen : as.length = n2) (hstk : stk = as.reverse ++ .ref k :: st) (hst : (st.map fun v => v.category).sum ≤ 8) (hd : decode cc pc = .ok (.invokevirtual ix, 3)) (hp : pc + 3 = pc2) (kk : ∀ v σ2, Q2 v σ2 → Rf Λ d E nL Q pc2 ls (.int v :: st) σ2) : Rf Λ d E nL Q pc ls stk σ :=
  Rf_callV X hcl hk hkd hM hdd hm.1 hw hm.2.1 hm.2.2.1 hm.2.2.2.1 hm.2.2.2.2.1 hm.2.2.2.2.2 hlen hstk hst hd hp (fun r σ2 h => by obtain ⟨v, rfl, h⟩ := h; exact kk v σ2 h)
theorem Rf_cSi (X : rfX Λ E y cc nL ret) {ix n2 d2 nL2 : Nat} {y2 : MethodName} {cc2 : ByteArray} {ret2 : Option FieldType} {as stk : List Value} {Q2 : Int32 → rfS → Prop} (hm : rfMs y2 cc2 nL2 ret2 n2) (hw : Cond.methodLink y.cls ix y2 ∈ rfG) (hM : RM Λ d2 y2 cc2 nL2 ret2 as σ (qi Q2)) (hdd : d2 + 1 ≤ d) (hlen : as.length = n2) (hstk : stk = as.reverse ++ st) (hst : (st.map fun v => v.category).sum ≤ 8) (hd : decode cc pc = .ok (.invokestatic ix, 3)) (hp : pc + 3 = pc2) (kk : ∀ v σ2, Q2 v σ2 → Rf Λ d E nL Q pc2 ls (.int v :: st) σ2) : Rf Λ d E nL Q pc ls stk σ :=
  Rf_callS X hM hdd hm.1 hw hm.2.1 hm.2.2.1 hm.2.2.2.1 hm.2.2.2.2 hlen hstk hst hd hp (fun r σ2 h => by obtain ⟨v, rfl, h⟩ := h; exact kk v σ2 h)
theorem Rf_cVl (X : rfX Λ E y cc nL ret) {ix n2 d2 nL2 : Nat} {y2 : MethodName} {cc2 : ByteArray} {ret2 : Option FieldType} {as stk : List Value} {Q2 : Int64 → rfS → Prop} {k ci : Nat} {C : String} {T : u_T} {N : Nat} (hm : rfMi C y2 cc2 nL2 ret2 n2) (hw : Cond.methodLink y.cls ix y2 ∈ rfG) (hcl : vwCl[ci]? = some (C, T, N)) (hk : k < Λ.1) (hkd : Λ.2.1 k = ci + 4) (hM : RM Λ d2 y2 cc2 nL2 ret2 (.ref k :: as) σ (ql Q2)) (hdd : d2 + 1 ≤ d) (hlen : as.length = n2) (hstk : stk = as.reverse ++ .ref k :: st) (hst : (st.map fun v => v.category).sum ≤ 8) (hd : decode cc pc = .ok (.invokevirtual ix, 3)) (hp : pc + 3 = pc2) (kk : ∀ v σ2, Q2 v σ2 → Rf Λ d E nL Q pc2 ls (.long v :: st) σ2) : Rf Λ d E nL Q pc ls stk σ :=
  Rf_callV X hcl hk hkd hM hdd hm.1 hw hm.2.1 hm.2.2.1 hm.2.2.2.1 hm.2.2.2.2.1 hm.2.2.2.2.2 hlen hstk hst hd hp (fun r σ2 h => by obtain ⟨v, rfl, h⟩ := h; exact kk v σ2 h)
theorem Rf_cSl (X : rfX Λ E y cc nL ret) {ix n2 d2 nL2 : Nat} {y2 : MethodName} {cc2 : ByteArray} {ret2 : Option FieldType} {as stk : List Value} {Q2 : Int64 → rfS → Prop} (hm : rfMs y2 cc2 nL2 ret2 n2) (hw : Cond.methodLink y.cls ix y2 ∈ rfG) (hM : RM Λ d2 y2 cc2 nL2 ret2 as σ (ql Q2)) (hdd : d2 + 1 ≤ d) (hlen : as.length = n2) (hstk : stk = as.reverse ++ st) (hst : (st.map fun v => v.category).sum ≤ 8) (hd : decode cc pc = .ok (.invokestatic ix, 3)) (hp : pc + 3 = pc2) (kk : ∀ v σ2, Q2 v σ2 → Rf Λ d E nL Q pc2 ls (.long v :: st) σ2) : Rf Λ d E nL Q pc ls stk σ :=
  Rf_callS X hM hdd hm.1 hw hm.2.1 hm.2.2.1 hm.2.2.2.1 hm.2.2.2.2 hlen hstk hst hd hp (fun r σ2 h => by obtain ⟨v, rfl, h⟩ := h; exact kk v σ2 h)
theorem Rf_cVr (X : rfX Λ E y cc nL ret) {ix n2 d2 nL2 : Nat} {y2 : MethodName} {cc2 : ByteArray} {ret2 : Option FieldType} {as stk : List Value} {Q2 : Nat → rfS → Prop} {k ci : Nat} {C : String} {T : u_T} {N : Nat} (hm : rfMi C y2 cc2 nL2 ret2 n2) (hw : Cond.methodLink y.cls ix y2 ∈ rfG) (hcl : vwCl[ci]? = some (C, T, N)) (hk : k < Λ.1) (hkd : Λ.2.1 k = ci + 4) (hM : RM Λ d2 y2 cc2 nL2 ret2 (.ref k :: as) σ (qr Q2)) (hdd : d2 + 1 ≤ d) (hlen : as.length = n2) (hstk : stk = as.reverse ++ .ref k :: st) (hst : (st.map fun v => v.category).sum ≤ 8) (hd : decode cc pc = .ok (.invokevirtual ix, 3)) (hp : pc + 3 = pc2) (kk : ∀ v σ2, Q2 v σ2 → Rf Λ d E nL Q pc2 ls (.ref v :: st) σ2) : Rf Λ d E nL Q pc ls stk σ :=
  Rf_callV X hcl hk hkd hM hdd hm.1 hw hm.2.1 hm.2.2.1 hm.2.2.2.1 hm.2.2.2.2.1 hm.2.2.2.2.2 hlen hstk hst hd hp (fun r σ2 h => by obtain ⟨v, rfl, h⟩ := h; exact kk v σ2 h)
theorem Rf_cSr (X : rfX Λ E y cc nL ret) {ix n2 d2 nL2 : Nat} {y2 : MethodName} {cc2 : ByteArray} {ret2 : Option FieldType} {as stk : List Value} {Q2 : Nat → rfS → Prop} (hm : rfMs y2 cc2 nL2 ret2 n2) (hw : Cond.methodLink y.cls ix y2 ∈ rfG) (hM : RM Λ d2 y2 cc2 nL2 ret2 as σ (qr Q2)) (hdd : d2 + 1 ≤ d) (hlen : as.length = n2) (hstk : stk = as.reverse ++ st) (hst : (st.map fun v => v.category).sum ≤ 8) (hd : decode cc pc = .ok (.invokestatic ix, 3)) (hp : pc + 3 = pc2) (kk : ∀ v σ2, Q2 v σ2 → Rf Λ d E nL Q pc2 ls (.ref v :: st) σ2) : Rf Λ d E nL Q pc ls stk σ :=
  Rf_callS X hM hdd hm.1 hw hm.2.1 hm.2.2.1 hm.2.2.2.1 hm.2.2.2.2 hlen hstk hst hd hp (fun r σ2 h => by obtain ⟨v, rfl, h⟩ := h; exact kk v σ2 h)
theorem Rf_cVv (X : rfX Λ E y cc nL ret) {ix n2 d2 nL2 : Nat} {y2 : MethodName} {cc2 : ByteArray} {ret2 : Option FieldType} {as stk : List Value} {Q2 : rfS → Prop} {k ci : Nat} {C : String} {T : u_T} {N : Nat} (hm : rfMi C y2 cc2 nL2 ret2 n2) (hw : Cond.methodLink y.cls ix y2 ∈ rfG) (hcl : vwCl[ci]? = some (C, T, N)) (hk : k < Λ.1) (hkd : Λ.2.1 k = ci + 4) (hM : RM Λ d2 y2 cc2 nL2 ret2 (.ref k :: as) σ (qv Q2)) (hdd : d2 + 1 ≤ d) (hlen : as.length = n2) (hstk : stk = as.reverse ++ .ref k :: st) (hst : (st.map fun v => v.category).sum ≤ 8) (hd : decode cc pc = .ok (.invokevirtual ix, 3)) (hp : pc + 3 = pc2) (kk : ∀ σ2, Q2 σ2 → Rf Λ d E nL Q pc2 ls st σ2) : Rf Λ d E nL Q pc ls stk σ :=
  Rf_callV X hcl hk hkd hM hdd hm.1 hw hm.2.1 hm.2.2.1 hm.2.2.2.1 hm.2.2.2.2.1 hm.2.2.2.2.2 hlen hstk hst hd hp (fun r σ2 h => by obtain ⟨rfl, h⟩ := h; exact kk σ2 h)
theorem Rf_cSv (X : rfX Λ E y cc nL ret) {ix n2 d2 nL2 : Nat} {y2 : MethodName} {cc2 : ByteArray} {ret2 : Option FieldType} {as stk : List Value} {Q2 : rfS → Prop} (hm : rfMs y2 cc2 nL2 ret2 n2) (hw : Cond.methodLink y.cls ix y2 ∈ rfG) (hM : RM Λ d2 y2 cc2 nL2 ret2 as σ (qv Q2)) (hdd : d2 + 1 ≤ d) (hlen : as.length = n2) (hstk : stk = as.reverse ++ st) (hst : (st.map fun v => v.category).sum ≤ 8) (hd : decode cc pc = .ok (.invokestatic ix, 3)) (hp : pc + 3 = pc2) (kk : ∀ σ2, Q2 σ2 → Rf Λ d E nL Q pc2 ls st σ2) : Rf Λ d E nL Q pc ls stk σ :=
  Rf_callS X hM hdd hm.1 hw hm.2.1 hm.2.2.1 hm.2.2.2.1 hm.2.2.2.2 hlen hstk hst hd hp (fun r σ2 h => by obtain ⟨rfl, h⟩ := h; exact kk σ2 h)
end RfCalls
end

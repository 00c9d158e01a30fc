-- ===== PART A: goes FIRST, ahead of the names: the tables' words, and 'selects' of the private methods out of them =====
/-- a private method of a class that the tables say can be made, by its rows of tables_1 -/
def lw_okq (q : MethodName × Nat) : Prop := (q.1.cls ≠ "java/lang/invoke/MethodHandle" ∧ q.1.cls ≠ "java/lang/invoke/VarHandle") ∧ Cond.instantiable q.1.cls q.2 ∈ tables_1 ∧ Cond.privateMethod q.1 ∈ tables_1 ∧ Cond.instanceMethod q.1 ∈ tables_1
theorem lw_p0 : lw_okq (⟨"QuiverDesk", "arrowsChanged", "()V"⟩, 13) := ⟨⟨by decide +kernel, by decide +kernel⟩, List.mem_of_getElem? (i := 17) (by decide +kernel), List.mem_of_getElem? (i := 418) (by decide +kernel), List.mem_of_getElem? (i := 419) (by decide +kernel)⟩
theorem lw_p1 : lw_okq (⟨"QuiverDesk", "findWays", "()V"⟩, 13) := ⟨⟨by decide +kernel, by decide +kernel⟩, List.mem_of_getElem? (i := 17) (by decide +kernel), List.mem_of_getElem? (i := 455) (by decide +kernel), List.mem_of_getElem? (i := 456) (by decide +kernel)⟩
theorem lw_p2 : lw_okq (⟨"QuiverDesk", "isTrialWithinBounds", "()Z"⟩, 13) := ⟨⟨by decide +kernel, by decide +kernel⟩, List.mem_of_getElem? (i := 17) (by decide +kernel), List.mem_of_getElem? (i := 534) (by decide +kernel), List.mem_of_getElem? (i := 535) (by decide +kernel)⟩
theorem lw_p3 : lw_okq (⟨"QuiverDesk", "findRoots", "()V"⟩, 13) := ⟨⟨by decide +kernel, by decide +kernel⟩, List.mem_of_getElem? (i := 17) (by decide +kernel), List.mem_of_getElem? (i := 550) (by decide +kernel), List.mem_of_getElem? (i := 551) (by decide +kernel)⟩
theorem lw_p4 : lw_okq (⟨"QuiverDesk$Roots", "search", "(LQuiverDesk$Quiver;)Z"⟩, 13) := ⟨⟨by decide +kernel, by decide +kernel⟩, List.mem_of_getElem? (i := 132) (by decide +kernel), List.mem_of_getElem? (i := 558) (by decide +kernel), List.mem_of_getElem? (i := 559) (by decide +kernel)⟩
theorem lw_p5 : lw_okq (⟨"QuiverDesk$Roots", "beginWithPoints", "(I)V"⟩, 13) := ⟨⟨by decide +kernel, by decide +kernel⟩, List.mem_of_getElem? (i := 132) (by decide +kernel), List.mem_of_getElem? (i := 562) (by decide +kernel), List.mem_of_getElem? (i := 563) (by decide +kernel)⟩
theorem lw_p6 : lw_okq (⟨"QuiverDesk$Roots", "takeIn", "(III)Z"⟩, 13) := ⟨⟨by decide +kernel, by decide +kernel⟩, List.mem_of_getElem? (i := 132) (by decide +kernel), List.mem_of_getElem? (i := 570) (by decide +kernel), List.mem_of_getElem? (i := 571) (by decide +kernel)⟩
theorem lw_p7 : lw_okq (⟨"QuiverDesk$Roots", "isFound", "(I)Z"⟩, 13) := ⟨⟨by decide +kernel, by decide +kernel⟩, List.mem_of_getElem? (i := 132) (by decide +kernel), List.mem_of_getElem? (i := 574) (by decide +kernel), List.mem_of_getElem? (i := 575) (by decide +kernel)⟩
theorem lw_p8 : lw_okq (⟨"QuiverDesk$Roots", "giveNumbers", "()V"⟩, 13) := ⟨⟨by decide +kernel, by decide +kernel⟩, List.mem_of_getElem? (i := 132) (by decide +kernel), List.mem_of_getElem? (i := 579) (by decide +kernel), List.mem_of_getElem? (i := 580) (by decide +kernel)⟩
theorem lw_p9 : lw_okq (⟨"QuiverDesk$Roots", "isAhead", "(II)Z"⟩, 13) := ⟨⟨by decide +kernel, by decide +kernel⟩, List.mem_of_getElem? (i := 132) (by decide +kernel), List.mem_of_getElem? (i := 583) (by decide +kernel), List.mem_of_getElem? (i := 584) (by decide +kernel)⟩
theorem lw_p10 : lw_okq (⟨"QuiverDesk$Roots", "findNeighbours", "(LQuiverDesk$Quiver;LQuiverDesk$Ways;I)V"⟩, 13) := ⟨⟨by decide +kernel, by decide +kernel⟩, List.mem_of_getElem? (i := 132) (by decide +kernel), List.mem_of_getElem? (i := 587) (by decide +kernel), List.mem_of_getElem? (i := 588) (by decide +kernel)⟩
theorem lw_p11 : lw_okq (⟨"QuiverDesk$Roots", "goBack", "(I)V"⟩, 13) := ⟨⟨by decide +kernel, by decide +kernel⟩, List.mem_of_getElem? (i := 132) (by decide +kernel), List.mem_of_getElem? (i := 613) (by decide +kernel), List.mem_of_getElem? (i := 614) (by decide +kernel)⟩
theorem lw_p12 : lw_okq (⟨"QuiverDesk$Partition", "chooseRoots", "(LQuiverDesk$Roots;)V"⟩, 5) := ⟨⟨by decide +kernel, by decide +kernel⟩, List.mem_of_getElem? (i := 190) (by decide +kernel), List.mem_of_getElem? (i := 679) (by decide +kernel), List.mem_of_getElem? (i := 680) (by decide +kernel)⟩
theorem lw_p13 : lw_okq (⟨"QuiverDesk$Partition", "fits", "([I)Z"⟩, 5) := ⟨⟨by decide +kernel, by decide +kernel⟩, List.mem_of_getElem? (i := 190) (by decide +kernel), List.mem_of_getElem? (i := 683) (by decide +kernel), List.mem_of_getElem? (i := 684) (by decide +kernel)⟩
theorem lw_p14 : lw_okq (⟨"QuiverDesk$Partition", "howOftenFits", "([I)I"⟩, 5) := ⟨⟨by decide +kernel, by decide +kernel⟩, List.mem_of_getElem? (i := 190) (by decide +kernel), List.mem_of_getElem? (i := 687) (by decide +kernel), List.mem_of_getElem? (i := 688) (by decide +kernel)⟩
theorem lw_p15 : lw_okq (⟨"QuiverDesk$Partition", "putAmongUsed", "(II)V"⟩, 5) := ⟨⟨by decide +kernel, by decide +kernel⟩, List.mem_of_getElem? (i := 190) (by decide +kernel), List.mem_of_getElem? (i := 692) (by decide +kernel), List.mem_of_getElem? (i := 693) (by decide +kernel)⟩
def lw_privs_1 : List (MethodName × Nat) := [(⟨"QuiverDesk", "arrowsChanged", "()V"⟩, 13), (⟨"QuiverDesk", "findWays", "()V"⟩, 13), (⟨"QuiverDesk", "isTrialWithinBounds", "()Z"⟩, 13), (⟨"QuiverDesk", "findRoots", "()V"⟩, 13), (⟨"QuiverDesk$Roots", "search", "(LQuiverDesk$Quiver;)Z"⟩, 13), (⟨"QuiverDesk$Roots", "beginWithPoints", "(I)V"⟩, 13), (⟨"QuiverDesk$Roots", "takeIn", "(III)Z"⟩, 13), (⟨"QuiverDesk$Roots", "isFound", "(I)Z"⟩, 13), (⟨"QuiverDesk$Roots", "giveNumbers", "()V"⟩, 13), (⟨"QuiverDesk$Roots", "isAhead", "(II)Z"⟩, 13), (⟨"QuiverDesk$Roots", "findNeighbours", "(LQuiverDesk$Quiver;LQuiverDesk$Ways;I)V"⟩, 13), (⟨"QuiverDesk$Roots", "goBack", "(I)V"⟩, 13), (⟨"QuiverDesk$Partition", "chooseRoots", "(LQuiverDesk$Roots;)V"⟩, 5), (⟨"QuiverDesk$Partition", "fits", "([I)Z"⟩, 5), (⟨"QuiverDesk$Partition", "howOftenFits", "([I)I"⟩, 5), (⟨"QuiverDesk$Partition", "putAmongUsed", "(II)V"⟩, 5)]
theorem lw_r1 : ∀ q ∈ lw_privs_1, lw_okq q := List.forall_mem_cons.mpr ⟨lw_p0, List.forall_mem_cons.mpr ⟨lw_p1, List.forall_mem_cons.mpr ⟨lw_p2, List.forall_mem_cons.mpr ⟨lw_p3, List.forall_mem_cons.mpr ⟨lw_p4, List.forall_mem_cons.mpr ⟨lw_p5, List.forall_mem_cons.mpr ⟨lw_p6, List.forall_mem_cons.mpr ⟨lw_p7, List.forall_mem_cons.mpr ⟨lw_p8, List.forall_mem_cons.mpr ⟨lw_p9, List.forall_mem_cons.mpr ⟨lw_p10, List.forall_mem_cons.mpr ⟨lw_p11, List.forall_mem_cons.mpr ⟨lw_p12, List.forall_mem_cons.mpr ⟨lw_p13, List.forall_mem_cons.mpr ⟨lw_p14, List.forall_mem_cons.mpr ⟨lw_p15, fun _ h => absurd h List.not_mem_nil⟩⟩⟩⟩⟩⟩⟩⟩⟩⟩⟩⟩⟩⟩⟩⟩
theorem lw_p16 : lw_okq (⟨"QuiverDesk$Partition", "goOn", "(LQuiverDesk$Roots;)Z"⟩, 5) := ⟨⟨by decide +kernel, by decide +kernel⟩, List.mem_of_getElem? (i := 190) (by decide +kernel), List.mem_of_getElem? (i := 696) (by decide +kernel), List.mem_of_getElem? (i := 697) (by decide +kernel)⟩
theorem lw_p17 : lw_okq (⟨"QuiverDesk$Partition", "takeAway", "([II)V"⟩, 5) := ⟨⟨by decide +kernel, by decide +kernel⟩, List.mem_of_getElem? (i := 190) (by decide +kernel), List.mem_of_getElem? (i := 700) (by decide +kernel), List.mem_of_getElem? (i := 701) (by decide +kernel)⟩
theorem lw_p18 : lw_okq (⟨"QuiverDesk", "refusalOfLastRow", "(I)I"⟩, 13) := ⟨⟨by decide +kernel, by decide +kernel⟩, List.mem_of_getElem? (i := 17) (by decide +kernel), List.mem_of_getElem? (i := 721) (by decide +kernel), List.mem_of_getElem? (i := 722) (by decide +kernel)⟩
theorem lw_p19 : lw_okq (⟨"QuiverDesk", "rowsOfAllShelves", "()I"⟩, 13) := ⟨⟨by decide +kernel, by decide +kernel⟩, List.mem_of_getElem? (i := 17) (by decide +kernel), List.mem_of_getElem? (i := 773) (by decide +kernel), List.mem_of_getElem? (i := 774) (by decide +kernel)⟩
theorem lw_p20 : lw_okq (⟨"QuiverDeskModel", "reads", "(Z)Z"⟩, 30) := ⟨⟨by decide +kernel, by decide +kernel⟩, List.mem_of_getElem? (i := 777) (by decide +kernel), List.mem_of_getElem? (i := 892) (by decide +kernel), List.mem_of_getElem? (i := 893) (by decide +kernel)⟩
theorem lw_p21 : lw_okq (⟨"QuiverDeskModel", "tellsArrows", "()V"⟩, 30) := ⟨⟨by decide +kernel, by decide +kernel⟩, List.mem_of_getElem? (i := 777) (by decide +kernel), List.mem_of_getElem? (i := 896) (by decide +kernel), List.mem_of_getElem? (i := 897) (by decide +kernel)⟩
theorem lw_p22 : lw_okq (⟨"QuiverDeskModel", "nextToken", "()V"⟩, 30) := ⟨⟨by decide +kernel, by decide +kernel⟩, List.mem_of_getElem? (i := 777) (by decide +kernel), List.mem_of_getElem? (i := 900) (by decide +kernel), List.mem_of_getElem? (i := 901) (by decide +kernel)⟩
theorem lw_p23 : lw_okq (⟨"QuiverDeskModel", "readsClause", "()Z"⟩, 30) := ⟨⟨by decide +kernel, by decide +kernel⟩, List.mem_of_getElem? (i := 777) (by decide +kernel), List.mem_of_getElem? (i := 914) (by decide +kernel), List.mem_of_getElem? (i := 915) (by decide +kernel)⟩
theorem lw_p24 : lw_okq (⟨"QuiverDeskModel", "wordHere", "()I"⟩, 30) := ⟨⟨by decide +kernel, by decide +kernel⟩, List.mem_of_getElem? (i := 777) (by decide +kernel), List.mem_of_getElem? (i := 918) (by decide +kernel), List.mem_of_getElem? (i := 919) (by decide +kernel)⟩
theorem lw_p25 : lw_okq (⟨"QuiverDeskModel", "readsRest", "(I)Z"⟩, 30) := ⟨⟨by decide +kernel, by decide +kernel⟩, List.mem_of_getElem? (i := 777) (by decide +kernel), List.mem_of_getElem? (i := 922) (by decide +kernel), List.mem_of_getElem? (i := 923) (by decide +kernel)⟩
theorem lw_p26 : lw_okq (⟨"QuiverDeskModel", "number", "(III)Z"⟩, 30) := ⟨⟨by decide +kernel, by decide +kernel⟩, List.mem_of_getElem? (i := 777) (by decide +kernel), List.mem_of_getElem? (i := 926) (by decide +kernel), List.mem_of_getElem? (i := 927) (by decide +kernel)⟩
theorem lw_p27 : lw_okq (⟨"QuiverDeskModel", "numberHere", "(II)I"⟩, 30) := ⟨⟨by decide +kernel, by decide +kernel⟩, List.mem_of_getElem? (i := 777) (by decide +kernel), List.mem_of_getElem? (i := 930) (by decide +kernel), List.mem_of_getElem? (i := 931) (by decide +kernel)⟩
theorem lw_p28 : lw_okq (⟨"QuiverDeskModel", "leads", "(II)Z"⟩, 30) := ⟨⟨by decide +kernel, by decide +kernel⟩, List.mem_of_getElem? (i := 777) (by decide +kernel), List.mem_of_getElem? (i := 934) (by decide +kernel), List.mem_of_getElem? (i := 935) (by decide +kernel)⟩
theorem lw_p29 : lw_okq (⟨"QuiverDeskModel", "does", "(I)V"⟩, 30) := ⟨⟨by decide +kernel, by decide +kernel⟩, List.mem_of_getElem? (i := 777) (by decide +kernel), List.mem_of_getElem? (i := 938) (by decide +kernel), List.mem_of_getElem? (i := 939) (by decide +kernel)⟩
theorem lw_p30 : lw_okq (⟨"QuiverDeskModel", "anew", "(I)V"⟩, 30) := ⟨⟨by decide +kernel, by decide +kernel⟩, List.mem_of_getElem? (i := 777) (by decide +kernel), List.mem_of_getElem? (i := 942) (by decide +kernel), List.mem_of_getElem? (i := 943) (by decide +kernel)⟩
theorem lw_p31 : lw_okq (⟨"QuiverDeskModel", "addArrow", "(II)V"⟩, 30) := ⟨⟨by decide +kernel, by decide +kernel⟩, List.mem_of_getElem? (i := 777) (by decide +kernel), List.mem_of_getElem? (i := 946) (by decide +kernel), List.mem_of_getElem? (i := 947) (by decide +kernel)⟩
def lw_privs_2 : List (MethodName × Nat) := [(⟨"QuiverDesk$Partition", "goOn", "(LQuiverDesk$Roots;)Z"⟩, 5), (⟨"QuiverDesk$Partition", "takeAway", "([II)V"⟩, 5), (⟨"QuiverDesk", "refusalOfLastRow", "(I)I"⟩, 13), (⟨"QuiverDesk", "rowsOfAllShelves", "()I"⟩, 13), (⟨"QuiverDeskModel", "reads", "(Z)Z"⟩, 30), (⟨"QuiverDeskModel", "tellsArrows", "()V"⟩, 30), (⟨"QuiverDeskModel", "nextToken", "()V"⟩, 30), (⟨"QuiverDeskModel", "readsClause", "()Z"⟩, 30), (⟨"QuiverDeskModel", "wordHere", "()I"⟩, 30), (⟨"QuiverDeskModel", "readsRest", "(I)Z"⟩, 30), (⟨"QuiverDeskModel", "number", "(III)Z"⟩, 30), (⟨"QuiverDeskModel", "numberHere", "(II)I"⟩, 30), (⟨"QuiverDeskModel", "leads", "(II)Z"⟩, 30), (⟨"QuiverDeskModel", "does", "(I)V"⟩, 30), (⟨"QuiverDeskModel", "anew", "(I)V"⟩, 30), (⟨"QuiverDeskModel", "addArrow", "(II)V"⟩, 30)]
theorem lw_r2 : ∀ q ∈ lw_privs_2, lw_okq q := List.forall_mem_cons.mpr ⟨lw_p16, List.forall_mem_cons.mpr ⟨lw_p17, List.forall_mem_cons.mpr ⟨lw_p18, List.forall_mem_cons.mpr ⟨lw_p19, List.forall_mem_cons.mpr ⟨lw_p20, List.forall_mem_cons.mpr ⟨lw_p21, List.forall_mem_cons.mpr ⟨lw_p22, List.forall_mem_cons.mpr ⟨lw_p23, List.forall_mem_cons.mpr ⟨lw_p24, List.forall_mem_cons.mpr ⟨lw_p25, List.forall_mem_cons.mpr ⟨lw_p26, List.forall_mem_cons.mpr ⟨lw_p27, List.forall_mem_cons.mpr ⟨lw_p28, List.forall_mem_cons.mpr ⟨lw_p29, List.forall_mem_cons.mpr ⟨lw_p30, List.forall_mem_cons.mpr ⟨lw_p31, fun _ h => absurd h List.not_mem_nil⟩⟩⟩⟩⟩⟩⟩⟩⟩⟩⟩⟩⟩⟩⟩⟩
theorem lw_p32 : lw_okq (⟨"QuiverDeskModel", "isPoint", "(I)Z"⟩, 30) := ⟨⟨by decide +kernel, by decide +kernel⟩, List.mem_of_getElem? (i := 777) (by decide +kernel), List.mem_of_getElem? (i := 964) (by decide +kernel), List.mem_of_getElem? (i := 965) (by decide +kernel)⟩
theorem lw_p33 : lw_okq (⟨"QuiverDeskModel", "goes", "(I)I"⟩, 30) := ⟨⟨by decide +kernel, by decide +kernel⟩, List.mem_of_getElem? (i := 777) (by decide +kernel), List.mem_of_getElem? (i := 968) (by decide +kernel), List.mem_of_getElem? (i := 969) (by decide +kernel)⟩
theorem lw_p34 : lw_okq (⟨"QuiverDeskModel", "comes", "(I)I"⟩, 30) := ⟨⟨by decide +kernel, by decide +kernel⟩, List.mem_of_getElem? (i := 777) (by decide +kernel), List.mem_of_getElem? (i := 972) (by decide +kernel), List.mem_of_getElem? (i := 973) (by decide +kernel)⟩
theorem lw_p35 : lw_okq (⟨"QuiverDeskModel", "orderOf", "(I)I"⟩, 30) := ⟨⟨by decide +kernel, by decide +kernel⟩, List.mem_of_getElem? (i := 777) (by decide +kernel), List.mem_of_getElem? (i := 976) (by decide +kernel), List.mem_of_getElem? (i := 977) (by decide +kernel)⟩
theorem lw_p36 : lw_okq (⟨"QuiverDeskModel", "goesTo", "(II)Z"⟩, 30) := ⟨⟨by decide +kernel, by decide +kernel⟩, List.mem_of_getElem? (i := 777) (by decide +kernel), List.mem_of_getElem? (i := 980) (by decide +kernel), List.mem_of_getElem? (i := 981) (by decide +kernel)⟩
theorem lw_p37 : lw_okq (⟨"QuiverDeskModel", "knows", "()V"⟩, 30) := ⟨⟨by decide +kernel, by decide +kernel⟩, List.mem_of_getElem? (i := 777) (by decide +kernel), List.mem_of_getElem? (i := 988) (by decide +kernel), List.mem_of_getElem? (i := 989) (by decide +kernel)⟩
theorem lw_p38 : lw_okq (⟨"QuiverDeskModel", "findsWays", "()V"⟩, 30) := ⟨⟨by decide +kernel, by decide +kernel⟩, List.mem_of_getElem? (i := 777) (by decide +kernel), List.mem_of_getElem? (i := 992) (by decide +kernel), List.mem_of_getElem? (i := 993) (by decide +kernel)⟩
theorem lw_p39 : lw_okq (⟨"QuiverDeskModel", "isFinite", "()Z"⟩, 30) := ⟨⟨by decide +kernel, by decide +kernel⟩, List.mem_of_getElem? (i := 777) (by decide +kernel), List.mem_of_getElem? (i := 996) (by decide +kernel), List.mem_of_getElem? (i := 997) (by decide +kernel)⟩
theorem lw_p40 : lw_okq (⟨"QuiverDeskModel", "tries", "(II)V"⟩, 30) := ⟨⟨by decide +kernel, by decide +kernel⟩, List.mem_of_getElem? (i := 777) (by decide +kernel), List.mem_of_getElem? (i := 1003) (by decide +kernel), List.mem_of_getElem? (i := 1004) (by decide +kernel)⟩
theorem lw_p41 : lw_okq (⟨"QuiverDeskModel", "form", "([II[II)I"⟩, 30) := ⟨⟨by decide +kernel, by decide +kernel⟩, List.mem_of_getElem? (i := 777) (by decide +kernel), List.mem_of_getElem? (i := 1007) (by decide +kernel), List.mem_of_getElem? (i := 1008) (by decide +kernel)⟩
theorem lw_p42 : lw_okq (⟨"QuiverDeskModel", "placesRoot", "()V"⟩, 30) := ⟨⟨by decide +kernel, by decide +kernel⟩, List.mem_of_getElem? (i := 777) (by decide +kernel), List.mem_of_getElem? (i := 1011) (by decide +kernel), List.mem_of_getElem? (i := 1012) (by decide +kernel)⟩
theorem lw_p43 : lw_okq (⟨"QuiverDeskModel", "tauOf", "(I)I"⟩, 30) := ⟨⟨by decide +kernel, by decide +kernel⟩, List.mem_of_getElem? (i := 777) (by decide +kernel), List.mem_of_getElem? (i := 1018) (by decide +kernel), List.mem_of_getElem? (i := 1019) (by decide +kernel)⟩
theorem lw_p44 : lw_okq (⟨"QuiverDeskModel", "keepPast", "()V"⟩, 30) := ⟨⟨by decide +kernel, by decide +kernel⟩, List.mem_of_getElem? (i := 777) (by decide +kernel), List.mem_of_getElem? (i := 1027) (by decide +kernel), List.mem_of_getElem? (i := 1028) (by decide +kernel)⟩
theorem lw_p45 : lw_okq (⟨"QuiverDeskModel", "copyRow", "(II)V"⟩, 30) := ⟨⟨by decide +kernel, by decide +kernel⟩, List.mem_of_getElem? (i := 777) (by decide +kernel), List.mem_of_getElem? (i := 1031) (by decide +kernel), List.mem_of_getElem? (i := 1032) (by decide +kernel)⟩
theorem lw_p46 : lw_okq (⟨"QuiverDeskModel", "about", "(I)I"⟩, 30) := ⟨⟨by decide +kernel, by decide +kernel⟩, List.mem_of_getElem? (i := 777) (by decide +kernel), List.mem_of_getElem? (i := 1043) (by decide +kernel), List.mem_of_getElem? (i := 1044) (by decide +kernel)⟩
theorem lw_p47 : lw_okq (⟨"QuiverDeskModel", "shifts", "(Z)V"⟩, 30) := ⟨⟨by decide +kernel, by decide +kernel⟩, List.mem_of_getElem? (i := 777) (by decide +kernel), List.mem_of_getElem? (i := 1057) (by decide +kernel), List.mem_of_getElem? (i := 1058) (by decide +kernel)⟩
def lw_privs_3 : List (MethodName × Nat) := [(⟨"QuiverDeskModel", "isPoint", "(I)Z"⟩, 30), (⟨"QuiverDeskModel", "goes", "(I)I"⟩, 30), (⟨"QuiverDeskModel", "comes", "(I)I"⟩, 30), (⟨"QuiverDeskModel", "orderOf", "(I)I"⟩, 30), (⟨"QuiverDeskModel", "goesTo", "(II)Z"⟩, 30), (⟨"QuiverDeskModel", "knows", "()V"⟩, 30), (⟨"QuiverDeskModel", "findsWays", "()V"⟩, 30), (⟨"QuiverDeskModel", "isFinite", "()Z"⟩, 30), (⟨"QuiverDeskModel", "tries", "(II)V"⟩, 30), (⟨"QuiverDeskModel", "form", "([II[II)I"⟩, 30), (⟨"QuiverDeskModel", "placesRoot", "()V"⟩, 30), (⟨"QuiverDeskModel", "tauOf", "(I)I"⟩, 30), (⟨"QuiverDeskModel", "keepPast", "()V"⟩, 30), (⟨"QuiverDeskModel", "copyRow", "(II)V"⟩, 30), (⟨"QuiverDeskModel", "about", "(I)I"⟩, 30), (⟨"QuiverDeskModel", "shifts", "(Z)V"⟩, 30)]
theorem lw_r3 : ∀ q ∈ lw_privs_3, lw_okq q := List.forall_mem_cons.mpr ⟨lw_p32, List.forall_mem_cons.mpr ⟨lw_p33, List.forall_mem_cons.mpr ⟨lw_p34, List.forall_mem_cons.mpr ⟨lw_p35, List.forall_mem_cons.mpr ⟨lw_p36, List.forall_mem_cons.mpr ⟨lw_p37, List.forall_mem_cons.mpr ⟨lw_p38, List.forall_mem_cons.mpr ⟨lw_p39, List.forall_mem_cons.mpr ⟨lw_p40, List.forall_mem_cons.mpr ⟨lw_p41, List.forall_mem_cons.mpr ⟨lw_p42, List.forall_mem_cons.mpr ⟨lw_p43, List.forall_mem_cons.mpr ⟨lw_p44, List.forall_mem_cons.mpr ⟨lw_p45, List.forall_mem_cons.mpr ⟨lw_p46, List.forall_mem_cons.mpr ⟨lw_p47, fun _ h => absurd h List.not_mem_nil⟩⟩⟩⟩⟩⟩⟩⟩⟩⟩⟩⟩⟩⟩⟩⟩
theorem lw_p48 : lw_okq (⟨"QuiverDeskModel", "becomes", "()Z"⟩, 30) := ⟨⟨by decide +kernel, by decide +kernel⟩, List.mem_of_getElem? (i := 777) (by decide +kernel), List.mem_of_getElem? (i := 1061) (by decide +kernel), List.mem_of_getElem? (i := 1062) (by decide +kernel)⟩
theorem lw_p49 : lw_okq (⟨"QuiverDeskModel", "tits", "()I"⟩, 30) := ⟨⟨by decide +kernel, by decide +kernel⟩, List.mem_of_getElem? (i := 777) (by decide +kernel), List.mem_of_getElem? (i := 1065) (by decide +kernel), List.mem_of_getElem? (i := 1066) (by decide +kernel)⟩
theorem lw_p50 : lw_okq (⟨"QuiverDeskModel", "steps", "(I)I"⟩, 30) := ⟨⟨by decide +kernel, by decide +kernel⟩, List.mem_of_getElem? (i := 777) (by decide +kernel), List.mem_of_getElem? (i := 1097) (by decide +kernel), List.mem_of_getElem? (i := 1098) (by decide +kernel)⟩
theorem lw_p51 : lw_okq (⟨"QuiverDeskModel", "foot", "(I)I"⟩, 30) := ⟨⟨by decide +kernel, by decide +kernel⟩, List.mem_of_getElem? (i := 777) (by decide +kernel), List.mem_of_getElem? (i := 1101) (by decide +kernel), List.mem_of_getElem? (i := 1102) (by decide +kernel)⟩
theorem lw_p52 : lw_okq (⟨"QuiverDeskModel", "projective", "(I)I"⟩, 30) := ⟨⟨by decide +kernel, by decide +kernel⟩, List.mem_of_getElem? (i := 777) (by decide +kernel), List.mem_of_getElem? (i := 1105) (by decide +kernel), List.mem_of_getElem? (i := 1106) (by decide +kernel)⟩
theorem lw_p53 : lw_okq (⟨"QuiverDeskModel", "mesh", "(I)I"⟩, 30) := ⟨⟨by decide +kernel, by decide +kernel⟩, List.mem_of_getElem? (i := 777) (by decide +kernel), List.mem_of_getElem? (i := 1109) (by decide +kernel), List.mem_of_getElem? (i := 1110) (by decide +kernel)⟩
theorem lw_p54 : lw_okq (⟨"QuiverDeskModel", "injective", "(I)I"⟩, 30) := ⟨⟨by decide +kernel, by decide +kernel⟩, List.mem_of_getElem? (i := 777) (by decide +kernel), List.mem_of_getElem? (i := 1113) (by decide +kernel), List.mem_of_getElem? (i := 1114) (by decide +kernel)⟩
theorem lw_p55 : lw_okq (⟨"QuiverDeskModel", "fits", "(I)Z"⟩, 30) := ⟨⟨by decide +kernel, by decide +kernel⟩, List.mem_of_getElem? (i := 777) (by decide +kernel), List.mem_of_getElem? (i := 1130) (by decide +kernel), List.mem_of_getElem? (i := 1131) (by decide +kernel)⟩
theorem lw_p56 : lw_okq (⟨"QuiverDeskModel", "takes", "(II)V"⟩, 30) := ⟨⟨by decide +kernel, by decide +kernel⟩, List.mem_of_getElem? (i := 777) (by decide +kernel), List.mem_of_getElem? (i := 1134) (by decide +kernel), List.mem_of_getElem? (i := 1135) (by decide +kernel)⟩
theorem lw_p57 : lw_okq (⟨"QuiverDeskModel", "finds", "(I)I"⟩, 30) := ⟨⟨by decide +kernel, by decide +kernel⟩, List.mem_of_getElem? (i := 777) (by decide +kernel), List.mem_of_getElem? (i := 1155) (by decide +kernel), List.mem_of_getElem? (i := 1156) (by decide +kernel)⟩
theorem lw_p58 : lw_okq (⟨"QuiverDeskModel", "lastAt", "(I)I"⟩, 30) := ⟨⟨by decide +kernel, by decide +kernel⟩, List.mem_of_getElem? (i := 777) (by decide +kernel), List.mem_of_getElem? (i := 1161) (by decide +kernel), List.mem_of_getElem? (i := 1162) (by decide +kernel)⟩
theorem lw_p59 : lw_okq (⟨"QuiverDeskModel", "deepest", "()I"⟩, 30) := ⟨⟨by decide +kernel, by decide +kernel⟩, List.mem_of_getElem? (i := 777) (by decide +kernel), List.mem_of_getElem? (i := 1181) (by decide +kernel), List.mem_of_getElem? (i := 1182) (by decide +kernel)⟩
theorem lw_p60 : lw_okq (⟨"QuiverDeskModel", "ends", "(Z)I"⟩, 30) := ⟨⟨by decide +kernel, by decide +kernel⟩, List.mem_of_getElem? (i := 777) (by decide +kernel), List.mem_of_getElem? (i := 1185) (by decide +kernel), List.mem_of_getElem? (i := 1186) (by decide +kernel)⟩
theorem lw_p61 : lw_okq (⟨"QuiverDeskModel", "allWays", "()I"⟩, 30) := ⟨⟨by decide +kernel, by decide +kernel⟩, List.mem_of_getElem? (i := 777) (by decide +kernel), List.mem_of_getElem? (i := 1189) (by decide +kernel), List.mem_of_getElem? (i := 1190) (by decide +kernel)⟩
theorem lw_p62 : lw_okq (⟨"QuiverDeskModel", "hangs", "()I"⟩, 30) := ⟨⟨by decide +kernel, by decide +kernel⟩, List.mem_of_getElem? (i := 777) (by decide +kernel), List.mem_of_getElem? (i := 1193) (by decide +kernel), List.mem_of_getElem? (i := 1194) (by decide +kernel)⟩
theorem lw_p63 : lw_okq (⟨"QuiverDeskModel", "allRows", "()I"⟩, 30) := ⟨⟨by decide +kernel, by decide +kernel⟩, List.mem_of_getElem? (i := 777) (by decide +kernel), List.mem_of_getElem? (i := 1197) (by decide +kernel), List.mem_of_getElem? (i := 1198) (by decide +kernel)⟩
def lw_privs_4 : List (MethodName × Nat) := [(⟨"QuiverDeskModel", "becomes", "()Z"⟩, 30), (⟨"QuiverDeskModel", "tits", "()I"⟩, 30), (⟨"QuiverDeskModel", "steps", "(I)I"⟩, 30), (⟨"QuiverDeskModel", "foot", "(I)I"⟩, 30), (⟨"QuiverDeskModel", "projective", "(I)I"⟩, 30), (⟨"QuiverDeskModel", "mesh", "(I)I"⟩, 30), (⟨"QuiverDeskModel", "injective", "(I)I"⟩, 30), (⟨"QuiverDeskModel", "fits", "(I)Z"⟩, 30), (⟨"QuiverDeskModel", "takes", "(II)V"⟩, 30), (⟨"QuiverDeskModel", "finds", "(I)I"⟩, 30), (⟨"QuiverDeskModel", "lastAt", "(I)I"⟩, 30), (⟨"QuiverDeskModel", "deepest", "()I"⟩, 30), (⟨"QuiverDeskModel", "ends", "(Z)I"⟩, 30), (⟨"QuiverDeskModel", "allWays", "()I"⟩, 30), (⟨"QuiverDeskModel", "hangs", "()I"⟩, 30), (⟨"QuiverDeskModel", "allRows", "()I"⟩, 30)]
theorem lw_r4 : ∀ q ∈ lw_privs_4, lw_okq q := List.forall_mem_cons.mpr ⟨lw_p48, List.forall_mem_cons.mpr ⟨lw_p49, List.forall_mem_cons.mpr ⟨lw_p50, List.forall_mem_cons.mpr ⟨lw_p51, List.forall_mem_cons.mpr ⟨lw_p52, List.forall_mem_cons.mpr ⟨lw_p53, List.forall_mem_cons.mpr ⟨lw_p54, List.forall_mem_cons.mpr ⟨lw_p55, List.forall_mem_cons.mpr ⟨lw_p56, List.forall_mem_cons.mpr ⟨lw_p57, List.forall_mem_cons.mpr ⟨lw_p58, List.forall_mem_cons.mpr ⟨lw_p59, List.forall_mem_cons.mpr ⟨lw_p60, List.forall_mem_cons.mpr ⟨lw_p61, List.forall_mem_cons.mpr ⟨lw_p62, List.forall_mem_cons.mpr ⟨lw_p63, fun _ h => absurd h List.not_mem_nil⟩⟩⟩⟩⟩⟩⟩⟩⟩⟩⟩⟩⟩⟩⟩⟩
def lw_privs : List (MethodName × Nat) := lw_privs_1 ++ (lw_privs_2 ++ (lw_privs_3 ++ (lw_privs_4)))
def lw_tbl : List Cond := k2_sels lw_privs ++ tables_1
theorem lw_privs_ok : ∀ q ∈ lw_privs, lw_okq q := by
  show ∀ q ∈ lw_privs_1 ++ (lw_privs_2 ++ (lw_privs_3 ++ (lw_privs_4))), lw_okq q
  exact List.forall_mem_append.mpr ⟨lw_r1, List.forall_mem_append.mpr ⟨lw_r2, List.forall_mem_append.mpr ⟨lw_r3, lw_r4⟩⟩⟩
/-- the words that every method of the system is proved over -/
def TBW : List Cond := lw_tbl.filter goodWord
theorem tbw_mem {w : Cond} (i : Nat) (h : lw_tbl[i]? = some w) (g : goodWord w = true) : w ∈ TBW := List.mem_filter.mpr ⟨List.mem_of_getElem? h, g⟩
/-- an instruction at pc, its length, the next pc -/
abbrev At (cc : ByteArray) (pc n pc2 : Nat) (i : Instr) : Prop := decode cc pc = .ok (i, n) ∧ pc2 = pc + n
def RX0 : String := "QuiverDesk$Partition"
def TX0 : u_T := fun k => match k with
  | 0 => ("QuiverDesk$Partition", "used", "[I", true)
  | 1 => ("QuiverDesk$Partition", "times", "[I", true)
  | 2 => ("QuiverDesk$Partition", "left", "[I", true)
  | 3 => ("QuiverDesk$Partition", "usedSize", "I", false)
  | _ => ("QuiverDesk$Partition", "points", "I", false)
def tyX0 : Nat → FieldType := fun k => match k with
  | 0 => .array .int
  | 1 => .array .int
  | 2 => .array .int
  | 3 => .int
  | _ => .int
theorem nmX0 : ∀ a, a < 5 → ∀ b, b < 5 → a ≠ b → (TX0 a).2.1 ≠ (TX0 b).2.1 := by decide +kernel
theorem tyX0_ok : ∀ k, k < 5 → parseFieldDescriptor (TX0 k).2.2.1 = some (tyX0 k) := by decide +kernel
abbrev cX0_init : ByteArray := prog_2_method_1_code
def yX0_init : MethodName := ⟨RX0, "<init>", "()V"⟩
abbrev cX0_ways : ByteArray := prog_2_method_2_code
def yX0_ways : MethodName := ⟨RX0, "ways", "(LQuiverDesk$Quiver;LQuiverDesk$Roots;)I"⟩
abbrev cX0_chooseRoots : ByteArray := prog_2_method_3_code
def yX0_chooseRoots : MethodName := ⟨RX0, "chooseRoots", "(LQuiverDesk$Roots;)V"⟩
abbrev cX0_putAmongUsed : ByteArray := prog_2_method_4_code
def yX0_putAmongUsed : MethodName := ⟨RX0, "putAmongUsed", "(II)V"⟩
abbrev cX0_goOn : ByteArray := prog_2_method_5_code
def yX0_goOn : MethodName := ⟨RX0, "goOn", "(LQuiverDesk$Roots;)Z"⟩
abbrev cX0_takeAway : ByteArray := prog_2_method_6_code
def yX0_takeAway : MethodName := ⟨RX0, "takeAway", "([II)V"⟩
abbrev cX0_fits : ByteArray := prog_2_method_7_code
def yX0_fits : MethodName := ⟨RX0, "fits", "([I)Z"⟩
abbrev cX0_howOftenFits : ByteArray := prog_2_method_8_code
def yX0_howOftenFits : MethodName := ⟨RX0, "howOftenFits", "([I)I"⟩
def RX1 : String := "QuiverDesk$Past"
def TX1 : u_T := fun k => match k with
  | 0 => ("QuiverDesk$Past", "slots", "[LQuiverDesk$Quiver;", true)
  | 1 => ("QuiverDesk$Past", "next", "I", false)
  | _ => ("QuiverDesk$Past", "size", "I", false)
def tyX1 : Nat → FieldType := fun k => match k with
  | 0 => .array (.object "QuiverDesk$Quiver")
  | 1 => .int
  | _ => .int
theorem nmX1 : ∀ a, a < 3 → ∀ b, b < 3 → a ≠ b → (TX1 a).2.1 ≠ (TX1 b).2.1 := by decide +kernel
theorem tyX1_ok : ∀ k, k < 3 → parseFieldDescriptor (TX1 k).2.2.1 = some (tyX1 k) := by decide +kernel
abbrev cX1_init : ByteArray := prog_3_method_1_code
def yX1_init : MethodName := ⟨RX1, "<init>", "()V"⟩
abbrev cX1_forget : ByteArray := prog_3_method_2_code
def yX1_forget : MethodName := ⟨RX1, "forget", "()V"⟩
abbrev cX1_remember : ByteArray := prog_3_method_3_code
def yX1_remember : MethodName := ⟨RX1, "remember", "(LQuiverDesk$Quiver;)V"⟩
abbrev cX1_recall : ByteArray := prog_3_method_4_code
def yX1_recall : MethodName := ⟨RX1, "recall", "(LQuiverDesk$Quiver;)V"⟩
def RX2 : String := "QuiverDesk$Quiver"
def TX2 : u_T := fun k => match k with
  | 0 => ("QuiverDesk$Quiver", "points", "I", false)
  | 1 => ("QuiverDesk$Quiver", "arrows", "I", false)
  | 2 => ("QuiverDesk$Quiver", "from", "[I", true)
  | 3 => ("QuiverDesk$Quiver", "to", "[I", true)
  | _ => ("QuiverDesk$Quiver", "row", "[I", true)
def tyX2 : Nat → FieldType := fun k => match k with
  | 0 => .int
  | 1 => .int
  | 2 => .array .int
  | 3 => .array .int
  | _ => .array .int
theorem nmX2 : ∀ a, a < 5 → ∀ b, b < 5 → a ≠ b → (TX2 a).2.1 ≠ (TX2 b).2.1 := by decide +kernel
theorem tyX2_ok : ∀ k, k < 5 → parseFieldDescriptor (TX2 k).2.2.1 = some (tyX2 k) := by decide +kernel
abbrev cX2_init : ByteArray := prog_4_method_1_code
def yX2_init : MethodName := ⟨RX2, "<init>", "()V"⟩
abbrev cX2_begin : ByteArray := prog_4_method_2_code
def yX2_begin : MethodName := ⟨RX2, "begin", "(I)V"⟩
abbrev cX2_become : ByteArray := prog_4_method_3_code
def yX2_become : MethodName := ⟨RX2, "become", "(LQuiverDesk$Quiver;)V"⟩
abbrev cX2_hasPoint : ByteArray := prog_4_method_4_code
def yX2_hasPoint : MethodName := ⟨RX2, "hasPoint", "(I)Z"⟩
abbrev cX2_hasArrow : ByteArray := prog_4_method_5_code
def yX2_hasArrow : MethodName := ⟨RX2, "hasArrow", "(I)Z"⟩
abbrev cX2_join : ByteArray := prog_4_method_6_code
def yX2_join : MethodName := ⟨RX2, "join", "(II)V"⟩
abbrev cX2_sever : ByteArray := prog_4_method_7_code
def yX2_sever : MethodName := ⟨RX2, "sever", "(I)V"⟩
abbrev cX2_swapArrowsAt : ByteArray := prog_4_method_8_code
def yX2_swapArrowsAt : MethodName := ⟨RX2, "swapArrowsAt", "(I)V"⟩
abbrev cX2_coming : ByteArray := prog_4_method_9_code
def yX2_coming : MethodName := ⟨RX2, "coming", "(I)I"⟩
abbrev cX2_going : ByteArray := prog_4_method_10_code
def yX2_going : MethodName := ⟨RX2, "going", "(I)I"⟩
abbrev cX2_isSink : ByteArray := prog_4_method_11_code
def yX2_isSink : MethodName := ⟨RX2, "isSink", "(I)Z"⟩
abbrev cX2_isSource : ByteArray := prog_4_method_12_code
def yX2_isSource : MethodName := ⟨RX2, "isSource", "(I)Z"⟩
abbrev cX2_sinks : ByteArray := prog_4_method_13_code
def yX2_sinks : MethodName := ⟨RX2, "sinks", "()I"⟩
abbrev cX2_sources : ByteArray := prog_4_method_14_code
def yX2_sources : MethodName := ⟨RX2, "sources", "()I"⟩
abbrev cX2_wouldLeadRound : ByteArray := prog_4_method_15_code
def yX2_wouldLeadRound : MethodName := ⟨RX2, "wouldLeadRound", "(II)Z"⟩
abbrev cX2_hangsTogether : ByteArray := prog_4_method_16_code
def yX2_hangsTogether : MethodName := ⟨RX2, "hangsTogether", "()Z"⟩
abbrev cX2_reached : ByteArray := prog_4_method_17_code
def yX2_reached : MethodName := ⟨RX2, "reached", "(IZ)I"⟩
abbrev cX2_eulerOf : ByteArray := prog_4_method_18_code
def yX2_eulerOf : MethodName := ⟨RX2, "eulerOf", "([I[I)I"⟩
abbrev cX2_tits : ByteArray := prog_4_method_19_code
def yX2_tits : MethodName := ⟨RX2, "tits", "()I"⟩
abbrev cX2_turnedAbout : ByteArray := prog_4_method_20_code
def yX2_turnedAbout : MethodName := ⟨RX2, "turnedAbout", "([II)I"⟩
def RX3 : String := "QuiverDesk$Roots"
def TX3 : u_T := fun k => match k with
  | 0 => ("QuiverDesk$Roots", "finite", "Z", false)
  | 1 => ("QuiverDesk$Roots", "size", "I", false)
  | 2 => ("QuiverDesk$Roots", "rows", "[[I", true)
  | 3 => ("QuiverDesk$Roots", "total", "[I", true)
  | 4 => ("QuiverDesk$Roots", "tau", "[I", true)
  | 5 => ("QuiverDesk$Roots", "steps", "[I", true)
  | 6 => ("QuiverDesk$Roots", "foot", "[I", true)
  | 7 => ("QuiverDesk$Roots", "injectiveOf", "[I", true)
  | 8 => ("QuiverDesk$Roots", "found", "[[I", true)
  | 9 => ("QuiverDesk$Roots", "foundCodes", "[I", true)
  | 10 => ("QuiverDesk$Roots", "foundTotals", "[I", true)
  | 11 => ("QuiverDesk$Roots", "projectiveOf", "[I", true)
  | _ => ("QuiverDesk$Roots", "trial", "[I", true)
def tyX3 : Nat → FieldType := fun k => match k with
  | 0 => .boolean
  | 1 => .int
  | 2 => .array (.array .int)
  | 3 => .array .int
  | 4 => .array .int
  | 5 => .array .int
  | 6 => .array .int
  | 7 => .array .int
  | 8 => .array (.array .int)
  | 9 => .array .int
  | 10 => .array .int
  | 11 => .array .int
  | _ => .array .int
theorem nmX3 : ∀ a, a < 13 → ∀ b, b < 13 → a ≠ b → (TX3 a).2.1 ≠ (TX3 b).2.1 := by decide +kernel
theorem tyX3_ok : ∀ k, k < 13 → parseFieldDescriptor (TX3 k).2.2.1 = some (tyX3 k) := by decide +kernel
abbrev cX3_init : ByteArray := prog_5_method_1_code
def yX3_init : MethodName := ⟨RX3, "<init>", "()V"⟩
abbrev cX3_learn : ByteArray := prog_5_method_2_code
def yX3_learn : MethodName := ⟨RX3, "learn", "(LQuiverDesk$Quiver;LQuiverDesk$Ways;)V"⟩
abbrev cX3_has : ByteArray := prog_5_method_3_code
def yX3_has : MethodName := ⟨RX3, "has", "(I)Z"⟩
abbrev cX3_search : ByteArray := prog_5_method_4_code
def yX3_search : MethodName := ⟨RX3, "search", "(LQuiverDesk$Quiver;)Z"⟩
abbrev cX3_beginWithPoints : ByteArray := prog_5_method_5_code
def yX3_beginWithPoints : MethodName := ⟨RX3, "beginWithPoints", "(I)V"⟩
abbrev cX3_takeIn : ByteArray := prog_5_method_6_code
def yX3_takeIn : MethodName := ⟨RX3, "takeIn", "(III)Z"⟩
abbrev cX3_codeOf : ByteArray := prog_5_method_7_code
def yX3_codeOf : MethodName := ⟨RX3, "codeOf", "(II)I"⟩
abbrev cX3_isFound : ByteArray := prog_5_method_8_code
def yX3_isFound : MethodName := ⟨RX3, "isFound", "(I)Z"⟩
abbrev cX3_giveNumbers : ByteArray := prog_5_method_9_code
def yX3_giveNumbers : MethodName := ⟨RX3, "giveNumbers", "()V"⟩
abbrev cX3_isAhead : ByteArray := prog_5_method_10_code
def yX3_isAhead : MethodName := ⟨RX3, "isAhead", "(II)Z"⟩
abbrev cX3_findNeighbours : ByteArray := prog_5_method_11_code
def yX3_findNeighbours : MethodName := ⟨RX3, "findNeighbours", "(LQuiverDesk$Quiver;LQuiverDesk$Ways;I)V"⟩
abbrev cX3_goBack : ByteArray := prog_5_method_12_code
def yX3_goBack : MethodName := ⟨RX3, "goBack", "(I)V"⟩
abbrev cX3_numberOf : ByteArray := prog_5_method_13_code
def yX3_numberOf : MethodName := ⟨RX3, "numberOf", "([II)I"⟩
abbrev cX3_meshTotal : ByteArray := prog_5_method_14_code
def yX3_meshTotal : MethodName := ⟨RX3, "meshTotal", "(I)I"⟩
abbrev cX3_deepest : ByteArray := prog_5_method_15_code
def yX3_deepest : MethodName := ⟨RX3, "deepest", "()I"⟩
def RX4 : String := "QuiverDesk$Shelf"
def TX4 : u_T := fun k => match k with
  | 0 => ("QuiverDesk$Shelf", "isThere", "Z", false)
  | 1 => ("QuiverDesk$Shelf", "size", "I", false)
  | 2 => ("QuiverDesk$Shelf", "rows", "[[I", true)
  | _ => ("QuiverDesk$Shelf", "points", "[I", true)
def tyX4 : Nat → FieldType := fun k => match k with
  | 0 => .boolean
  | 1 => .int
  | 2 => .array (.array .int)
  | _ => .array .int
theorem nmX4 : ∀ a, a < 4 → ∀ b, b < 4 → a ≠ b → (TX4 a).2.1 ≠ (TX4 b).2.1 := by decide +kernel
theorem tyX4_ok : ∀ k, k < 4 → parseFieldDescriptor (TX4 k).2.2.1 = some (tyX4 k) := by decide +kernel
abbrev cX4_init : ByteArray := prog_6_method_1_code
def yX4_init : MethodName := ⟨RX4, "<init>", "()V"⟩
abbrev cX4_lastRow : ByteArray := prog_6_method_2_code
def yX4_lastRow : MethodName := ⟨RX4, "lastRow", "()[I"⟩
def RX5 : String := "QuiverDesk$Text"
def TX5 : u_T := fun k => match k with
  | 0 => ("QuiverDesk$Text", "letters", "[I", true)
  | 1 => ("QuiverDesk$Text", "length", "I", false)
  | 2 => ("QuiverDesk$Text", "clauses", "I", false)
  | 3 => ("QuiverDesk$Text", "kind", "I", false)
  | 4 => ("QuiverDesk$Text", "start", "I", false)
  | _ => ("QuiverDesk$Text", "end", "I", false)
def tyX5 : Nat → FieldType := fun k => match k with
  | 0 => .array .int
  | 1 => .int
  | 2 => .int
  | 3 => .int
  | 4 => .int
  | _ => .int
theorem nmX5 : ∀ a, a < 6 → ∀ b, b < 6 → a ≠ b → (TX5 a).2.1 ≠ (TX5 b).2.1 := by decide +kernel
theorem tyX5_ok : ∀ k, k < 6 → parseFieldDescriptor (TX5 k).2.2.1 = some (tyX5 k) := by decide +kernel
abbrev cX5_init : ByteArray := prog_7_method_1_code
def yX5_init : MethodName := ⟨RX5, "<init>", "()V"⟩
abbrev cX5_readInto : ByteArray := prog_7_method_2_code
def yX5_readInto : MethodName := ⟨RX5, "readInto", "(LQuiverDesk$Quiver;)I"⟩
abbrev cX5_readClause : ByteArray := prog_7_method_3_code
def yX5_readClause : MethodName := ⟨RX5, "readClause", "(LQuiverDesk$Quiver;)Z"⟩
abbrev cX5_readPoints : ByteArray := prog_7_method_4_code
def yX5_readPoints : MethodName := ⟨RX5, "readPoints", "(LQuiverDesk$Quiver;)Z"⟩
abbrev cX5_readArrow : ByteArray := prog_7_method_5_code
def yX5_readArrow : MethodName := ⟨RX5, "readArrow", "(LQuiverDesk$Quiver;)Z"⟩
abbrev cX5_readRow : ByteArray := prog_7_method_6_code
def yX5_readRow : MethodName := ⟨RX5, "readRow", "(LQuiverDesk$Quiver;)Z"⟩
abbrev cX5_nextToken : ByteArray := prog_7_method_7_code
def yX5_nextToken : MethodName := ⟨RX5, "nextToken", "()V"⟩
abbrev cX5_kindOf : ByteArray := prog_7_method_8_code
def yX5_kindOf : MethodName := ⟨RX5, "kindOf", "(I)I"⟩
abbrev cX5_isWord : ByteArray := prog_7_method_9_code
def yX5_isWord : MethodName := ⟨RX5, "isWord", "(Ljava/lang/String;)Z"⟩
abbrev cX5_isNumber : ByteArray := prog_7_method_10_code
def yX5_isNumber : MethodName := ⟨RX5, "isNumber", "(II)Z"⟩
abbrev cX5_value : ByteArray := prog_7_method_11_code
def yX5_value : MethodName := ⟨RX5, "value", "()I"⟩
def RX6 : String := "QuiverDesk$Ways"
def TX6 : u_T := fun k => match k with
  | 0 => ("QuiverDesk$Ways", "order", "[I", true)
  | 1 => ("QuiverDesk$Ways", "place", "[I", true)
  | _ => ("QuiverDesk$Ways", "paths", "[[I", true)
def tyX6 : Nat → FieldType := fun k => match k with
  | 0 => .array .int
  | 1 => .array .int
  | _ => .array (.array .int)
theorem nmX6 : ∀ a, a < 3 → ∀ b, b < 3 → a ≠ b → (TX6 a).2.1 ≠ (TX6 b).2.1 := by decide +kernel
theorem tyX6_ok : ∀ k, k < 3 → parseFieldDescriptor (TX6 k).2.2.1 = some (tyX6 k) := by decide +kernel
abbrev cX6_init : ByteArray := prog_8_method_1_code
def yX6_init : MethodName := ⟨RX6, "<init>", "()V"⟩
abbrev cX6_learn : ByteArray := prog_8_method_2_code
def yX6_learn : MethodName := ⟨RX6, "learn", "(LQuiverDesk$Quiver;)V"⟩
abbrev cX6_leastReady : ByteArray := prog_8_method_3_code
def yX6_leastReady : MethodName := ⟨RX6, "leastReady", "(LQuiverDesk$Quiver;I)I"⟩
abbrev cX6_goesInto : ByteArray := prog_8_method_4_code
def yX6_goesInto : MethodName := ⟨RX6, "goesInto", "(LQuiverDesk$Quiver;II)Z"⟩
abbrev cX6_findPathsFrom : ByteArray := prog_8_method_5_code
def yX6_findPathsFrom : MethodName := ⟨RX6, "findPathsFrom", "(LQuiverDesk$Quiver;I)V"⟩
abbrev cX6_allPaths : ByteArray := prog_8_method_6_code
def yX6_allPaths : MethodName := ⟨RX6, "allPaths", "(I)I"⟩
abbrev cX6_shiftBack : ByteArray := prog_8_method_7_code
def yX6_shiftBack : MethodName := ⟨RX6, "shiftBack", "(LQuiverDesk$Quiver;[I)V"⟩
abbrev cX6_shiftOn : ByteArray := prog_8_method_8_code
def yX6_shiftOn : MethodName := ⟨RX6, "shiftOn", "(LQuiverDesk$Quiver;[I)V"⟩
abbrev cX6_pointOfProjective : ByteArray := prog_8_method_9_code
def yX6_pointOfProjective : MethodName := ⟨RX6, "pointOfProjective", "([II)I"⟩
abbrev cX6_pointOfInjective : ByteArray := prog_8_method_10_code
def yX6_pointOfInjective : MethodName := ⟨RX6, "pointOfInjective", "([II)I"⟩
abbrev cX6_isInjective : ByteArray := prog_8_method_11_code
def yX6_isInjective : MethodName := ⟨RX6, "isInjective", "(I[II)Z"⟩
def RX7 : String := "QuiverDesk"
def TX7 : u_T := fun k => match k with
  | 0 => ("QuiverDesk", "now", "LQuiverDesk$Quiver;", true)
  | 1 => ("QuiverDesk", "draft", "LQuiverDesk$Quiver;", true)
  | 2 => ("QuiverDesk", "past", "LQuiverDesk$Past;", true)
  | 3 => ("QuiverDesk", "kept", "[LQuiverDesk$Quiver;", true)
  | 4 => ("QuiverDesk", "isKept", "[Z", true)
  | 5 => ("QuiverDesk", "text", "LQuiverDesk$Text;", true)
  | 6 => ("QuiverDesk", "ways", "LQuiverDesk$Ways;", true)
  | 7 => ("QuiverDesk", "roots", "LQuiverDesk$Roots;", true)
  | 8 => ("QuiverDesk", "partition", "LQuiverDesk$Partition;", true)
  | 9 => ("QuiverDesk", "shelves", "[LQuiverDesk$Shelf;", true)
  | 10 => ("QuiverDesk", "trial", "[I", true)
  | 11 => ("QuiverDesk", "waysAreOld", "Z", false)
  | _ => ("QuiverDesk", "rootsAreOld", "Z", false)
def tyX7 : Nat → FieldType := fun k => match k with
  | 0 => .object "QuiverDesk$Quiver"
  | 1 => .object "QuiverDesk$Quiver"
  | 2 => .object "QuiverDesk$Past"
  | 3 => .array (.object "QuiverDesk$Quiver")
  | 4 => .array .boolean
  | 5 => .object "QuiverDesk$Text"
  | 6 => .object "QuiverDesk$Ways"
  | 7 => .object "QuiverDesk$Roots"
  | 8 => .object "QuiverDesk$Partition"
  | 9 => .array (.object "QuiverDesk$Shelf")
  | 10 => .array .int
  | 11 => .boolean
  | _ => .boolean
theorem nmX7 : ∀ a, a < 13 → ∀ b, b < 13 → a ≠ b → (TX7 a).2.1 ≠ (TX7 b).2.1 := by decide +kernel
theorem tyX7_ok : ∀ k, k < 13 → parseFieldDescriptor (TX7 k).2.2.1 = some (tyX7 k) := by decide +kernel
abbrev cX7_init : ByteArray := prog_1_method_1_code
def yX7_init : MethodName := ⟨RX7, "<init>", "()V"⟩
abbrev cX7_write : ByteArray := prog_1_method_2_code
def yX7_write : MethodName := ⟨RX7, "write", "(I)I"⟩
abbrev cX7_erase : ByteArray := prog_1_method_3_code
def yX7_erase : MethodName := ⟨RX7, "erase", "()I"⟩
abbrev cX7_fault : ByteArray := prog_1_method_4_code
def yX7_fault : MethodName := ⟨RX7, "fault", "()I"⟩
abbrev cX7_quiver : ByteArray := prog_1_method_5_code
def yX7_quiver : MethodName := ⟨RX7, "quiver", "()I"⟩
abbrev cX7_arrow : ByteArray := prog_1_method_6_code
def yX7_arrow : MethodName := ⟨RX7, "arrow", "(II)I"⟩
abbrev cX7_point : ByteArray := prog_1_method_7_code
def yX7_point : MethodName := ⟨RX7, "point", "(II)I"⟩
abbrev cX7_paths : ByteArray := prog_1_method_8_code
def yX7_paths : MethodName := ⟨RX7, "paths", "(II)I"⟩
abbrev cX7_put : ByteArray := prog_1_method_9_code
def yX7_put : MethodName := ⟨RX7, "put", "(II)I"⟩
abbrev cX7_cut : ByteArray := prog_1_method_10_code
def yX7_cut : MethodName := ⟨RX7, "cut", "(I)I"⟩
abbrev cX7_turn : ByteArray := prog_1_method_11_code
def yX7_turn : MethodName := ⟨RX7, "turn", "(I)I"⟩
abbrev cX7_set : ByteArray := prog_1_method_12_code
def yX7_set : MethodName := ⟨RX7, "set", "(II)I"⟩
abbrev cX7_shift : ByteArray := prog_1_method_13_code
def yX7_shift : MethodName := ⟨RX7, "shift", "(I)I"⟩
abbrev cX7_take : ByteArray := prog_1_method_14_code
def yX7_take : MethodName := ⟨RX7, "take", "(I)I"⟩
abbrev cX7_undo : ByteArray := prog_1_method_15_code
def yX7_undo : MethodName := ⟨RX7, "undo", "()I"⟩
abbrev cX7_keep : ByteArray := prog_1_method_16_code
def yX7_keep : MethodName := ⟨RX7, "keep", "(I)I"⟩
abbrev cX7_back : ByteArray := prog_1_method_17_code
def yX7_back : MethodName := ⟨RX7, "back", "(I)I"⟩
abbrev cX7_turned : ByteArray := prog_1_method_18_code
def yX7_turned : MethodName := ⟨RX7, "turned", "(I)I"⟩
abbrev cX7_root : ByteArray := prog_1_method_19_code
def yX7_root : MethodName := ⟨RX7, "root", "(II)I"⟩
abbrev cX7_place : ByteArray := prog_1_method_20_code
def yX7_place : MethodName := ⟨RX7, "place", "(II)I"⟩
abbrev cX7_between : ByteArray := prog_1_method_21_code
def yX7_between : MethodName := ⟨RX7, "between", "(III)I"⟩
abbrev cX7_find : ByteArray := prog_1_method_22_code
def yX7_find : MethodName := ⟨RX7, "find", "()I"⟩
abbrev cX7_sums : ByteArray := prog_1_method_23_code
def yX7_sums : MethodName := ⟨RX7, "sums", "()I"⟩
abbrev cX7_shelf : ByteArray := prog_1_method_24_code
def yX7_shelf : MethodName := ⟨RX7, "shelf", "(I)I"⟩
abbrev cX7_lay : ByteArray := prog_1_method_25_code
def yX7_lay : MethodName := ⟨RX7, "lay", "(I)I"⟩
abbrev cX7_draw : ByteArray := prog_1_method_26_code
def yX7_draw : MethodName := ⟨RX7, "draw", "(I)I"⟩
abbrev cX7_add : ByteArray := prog_1_method_27_code
def yX7_add : MethodName := ⟨RX7, "add", "(I)I"⟩
abbrev cX7_euler : ByteArray := prog_1_method_28_code
def yX7_euler : MethodName := ⟨RX7, "euler", "(II)I"⟩
abbrev cX7_drop : ByteArray := prog_1_method_29_code
def yX7_drop : MethodName := ⟨RX7, "drop", "(I)I"⟩
abbrev cX7_count : ByteArray := prog_1_method_30_code
def yX7_count : MethodName := ⟨RX7, "count", "(I)I"⟩
abbrev cX7_arrowsChanged : ByteArray := prog_1_method_31_code
def yX7_arrowsChanged : MethodName := ⟨RX7, "arrowsChanged", "()V"⟩
abbrev cX7_findWays : ByteArray := prog_1_method_32_code
def yX7_findWays : MethodName := ⟨RX7, "findWays", "()V"⟩
abbrev cX7_findRoots : ByteArray := prog_1_method_33_code
def yX7_findRoots : MethodName := ⟨RX7, "findRoots", "()V"⟩
abbrev cX7_isTrialWithinBounds : ByteArray := prog_1_method_34_code
def yX7_isTrialWithinBounds : MethodName := ⟨RX7, "isTrialWithinBounds", "()Z"⟩
abbrev cX7_refusalOfLastRow : ByteArray := prog_1_method_35_code
def yX7_refusalOfLastRow : MethodName := ⟨RX7, "refusalOfLastRow", "(I)I"⟩
abbrev cX7_rowsOfAllShelves : ByteArray := prog_1_method_36_code
def yX7_rowsOfAllShelves : MethodName := ⟨RX7, "rowsOfAllShelves", "()I"⟩
abbrev cX7_isWithinBounds : ByteArray := prog_1_method_37_code
def yX7_isWithinBounds : MethodName := ⟨RX7, "isWithinBounds", "(I)Z"⟩
abbrev cX7_isKeep : ByteArray := prog_1_method_38_code
def yX7_isKeep : MethodName := ⟨RX7, "isKeep", "(I)Z"⟩
abbrev cX7_isShelf : ByteArray := prog_1_method_39_code
def yX7_isShelf : MethodName := ⟨RX7, "isShelf", "(I)Z"⟩
abbrev cX7_copyRow : ByteArray := prog_1_method_40_code
def yX7_copyRow : MethodName := ⟨RX7, "copyRow", "([I[I)V"⟩
abbrev cX7_totalOf : ByteArray := prog_1_method_41_code
def yX7_totalOf : MethodName := ⟨RX7, "totalOf", "([II)I"⟩
abbrev cX7_isSameRow : ByteArray := prog_1_method_42_code
def yX7_isSameRow : MethodName := ⟨RX7, "isSameRow", "([I[II)Z"⟩
def RX8 : String := "QuiverDeskModel"
def TX8 : u_T := fun k => match k with
  | 0 => ("QuiverDeskModel", "points", "I", false)
  | 1 => ("QuiverDeskModel", "row", "[I", true)
  | 2 => ("QuiverDeskModel", "undos", "I", false)
  | 3 => ("QuiverDeskModel", "isKept", "[Z", true)
  | 4 => ("QuiverDeskModel", "text", "[I", true)
  | 5 => ("QuiverDeskModel", "length", "I", false)
  | 6 => ("QuiverDeskModel", "sizes", "[I", true)
  | 7 => ("QuiverDeskModel", "lengths", "[I", true)
  | 8 => ("QuiverDeskModel", "rows", "[I", true)
  | 9 => ("QuiverDeskModel", "ways", "[I", true)
  | 10 => ("QuiverDeskModel", "roots", "[I", true)
  | 11 => ("QuiverDeskModel", "taus", "[I", true)
  | 12 => ("QuiverDeskModel", "many", "I", false)
  | 13 => ("QuiverDeskModel", "known", "Z", false)
  | 14 => ("QuiverDeskModel", "unit", "[I", true)
  | 15 => ("QuiverDeskModel", "first", "I", false)
  | 16 => ("QuiverDeskModel", "behind", "I", false)
  | 17 => ("QuiverDeskModel", "told", "I", false)
  | 18 => ("QuiverDeskModel", "toldArrows", "I", false)
  | 19 => ("QuiverDeskModel", "toldFrom", "[I", true)
  | 20 => ("QuiverDeskModel", "toldTo", "[I", true)
  | 21 => ("QuiverDeskModel", "clauses", "I", false)
  | 22 => ("QuiverDeskModel", "doing", "Z", false)
  | 23 => ("QuiverDeskModel", "numbers", "[I", true)
  | 24 => ("QuiverDeskModel", "words", "[I", true)
  | 25 => ("QuiverDeskModel", "longer", "[I", true)
  | 26 => ("QuiverDeskModel", "tried", "[I", true)
  | 27 => ("QuiverDeskModel", "then", "[I", true)
  | 28 => ("QuiverDeskModel", "often", "[I", true)
  | _ => ("QuiverDeskModel", "rest", "[I", true)
def tyX8 : Nat → FieldType := fun k => match k with
  | 0 => .int
  | 1 => .array .int
  | 2 => .int
  | 3 => .array .boolean
  | 4 => .array .int
  | 5 => .int
  | 6 => .array .int
  | 7 => .array .int
  | 8 => .array .int
  | 9 => .array .int
  | 10 => .array .int
  | 11 => .array .int
  | 12 => .int
  | 13 => .boolean
  | 14 => .array .int
  | 15 => .int
  | 16 => .int
  | 17 => .int
  | 18 => .int
  | 19 => .array .int
  | 20 => .array .int
  | 21 => .int
  | 22 => .boolean
  | 23 => .array .int
  | 24 => .array .int
  | 25 => .array .int
  | 26 => .array .int
  | 27 => .array .int
  | 28 => .array .int
  | _ => .array .int
theorem nmX8 : ∀ a, a < 30 → ∀ b, b < 30 → a ≠ b → (TX8 a).2.1 ≠ (TX8 b).2.1 := by decide +kernel
theorem tyX8_ok : ∀ k, k < 30 → parseFieldDescriptor (TX8 k).2.2.1 = some (tyX8 k) := by decide +kernel
abbrev cX8_init : ByteArray := prog_10_method_1_code
def yX8_init : MethodName := ⟨RX8, "<init>", "()V"⟩
abbrev cX8_in : ByteArray := prog_10_method_2_code
def yX8_in : MethodName := ⟨RX8, "in", "(JJJ)Z"⟩
abbrev cX8_isPoint : ByteArray := prog_10_method_3_code
def yX8_isPoint : MethodName := ⟨RX8, "isPoint", "(I)Z"⟩
abbrev cX8_copyRow : ByteArray := prog_10_method_4_code
def yX8_copyRow : MethodName := ⟨RX8, "copyRow", "(II)V"⟩
abbrev cX8_write : ByteArray := prog_10_method_5_code
def yX8_write : MethodName := ⟨RX8, "write", "(I)I"⟩
abbrev cX8_erase : ByteArray := prog_10_method_6_code
def yX8_erase : MethodName := ⟨RX8, "erase", "()I"⟩
abbrev cX8_isSmall : ByteArray := prog_10_method_7_code
def yX8_isSmall : MethodName := ⟨RX8, "isSmall", "(I)Z"⟩
abbrev cX8_isDigit : ByteArray := prog_10_method_8_code
def yX8_isDigit : MethodName := ⟨RX8, "isDigit", "(I)Z"⟩
abbrev cX8_nextToken : ByteArray := prog_10_method_9_code
def yX8_nextToken : MethodName := ⟨RX8, "nextToken", "()V"⟩
abbrev cX8_wordHere : ByteArray := prog_10_method_10_code
def yX8_wordHere : MethodName := ⟨RX8, "wordHere", "()I"⟩
abbrev cX8_numberHere : ByteArray := prog_10_method_11_code
def yX8_numberHere : MethodName := ⟨RX8, "numberHere", "(II)I"⟩
abbrev cX8_number : ByteArray := prog_10_method_12_code
def yX8_number : MethodName := ⟨RX8, "number", "(III)Z"⟩
abbrev cX8_leads : ByteArray := prog_10_method_13_code
def yX8_leads : MethodName := ⟨RX8, "leads", "(II)Z"⟩
abbrev cX8_readsRest : ByteArray := prog_10_method_14_code
def yX8_readsRest : MethodName := ⟨RX8, "readsRest", "(I)Z"⟩
abbrev cX8_anew : ByteArray := prog_10_method_15_code
def yX8_anew : MethodName := ⟨RX8, "anew", "(I)V"⟩
abbrev cX8_addArrow : ByteArray := prog_10_method_16_code
def yX8_addArrow : MethodName := ⟨RX8, "addArrow", "(II)V"⟩
abbrev cX8_does : ByteArray := prog_10_method_17_code
def yX8_does : MethodName := ⟨RX8, "does", "(I)V"⟩
abbrev cX8_readsClause : ByteArray := prog_10_method_18_code
def yX8_readsClause : MethodName := ⟨RX8, "readsClause", "()Z"⟩
abbrev cX8_tellsArrows : ByteArray := prog_10_method_19_code
def yX8_tellsArrows : MethodName := ⟨RX8, "tellsArrows", "()V"⟩
abbrev cX8_reads : ByteArray := prog_10_method_20_code
def yX8_reads : MethodName := ⟨RX8, "reads", "(Z)Z"⟩
abbrev cX8_fault : ByteArray := prog_10_method_21_code
def yX8_fault : MethodName := ⟨RX8, "fault", "()I"⟩
abbrev cX8_quiver : ByteArray := prog_10_method_22_code
def yX8_quiver : MethodName := ⟨RX8, "quiver", "()I"⟩
abbrev cX8_arrow : ByteArray := prog_10_method_23_code
def yX8_arrow : MethodName := ⟨RX8, "arrow", "(II)I"⟩
abbrev cX8_comes : ByteArray := prog_10_method_24_code
def yX8_comes : MethodName := ⟨RX8, "comes", "(I)I"⟩
abbrev cX8_goes : ByteArray := prog_10_method_25_code
def yX8_goes : MethodName := ⟨RX8, "goes", "(I)I"⟩
abbrev cX8_goesTo : ByteArray := prog_10_method_26_code
def yX8_goesTo : MethodName := ⟨RX8, "goesTo", "(II)Z"⟩
abbrev cX8_orderOf : ByteArray := prog_10_method_27_code
def yX8_orderOf : MethodName := ⟨RX8, "orderOf", "(I)I"⟩
abbrev cX8_point : ByteArray := prog_10_method_28_code
def yX8_point : MethodName := ⟨RX8, "point", "(II)I"⟩
abbrev cX8_form : ByteArray := prog_10_method_29_code
def yX8_form : MethodName := ⟨RX8, "form", "([II[II)I"⟩
abbrev cX8_findsWays : ByteArray := prog_10_method_30_code
def yX8_findsWays : MethodName := ⟨RX8, "findsWays", "()V"⟩
abbrev cX8_tries : ByteArray := prog_10_method_31_code
def yX8_tries : MethodName := ⟨RX8, "tries", "(II)V"⟩
abbrev cX8_power : ByteArray := prog_10_method_32_code
def yX8_power : MethodName := ⟨RX8, "power", "(II)I"⟩
abbrev cX8_isFinite : ByteArray := prog_10_method_33_code
def yX8_isFinite : MethodName := ⟨RX8, "isFinite", "()Z"⟩
abbrev cX8_sumOf : ByteArray := prog_10_method_34_code
def yX8_sumOf : MethodName := ⟨RX8, "sumOf", "([II)I"⟩
abbrev cX8_placesRoot : ByteArray := prog_10_method_35_code
def yX8_placesRoot : MethodName := ⟨RX8, "placesRoot", "()V"⟩
abbrev cX8_knows : ByteArray := prog_10_method_36_code
def yX8_knows : MethodName := ⟨RX8, "knows", "()V"⟩
abbrev cX8_paths : ByteArray := prog_10_method_37_code
def yX8_paths : MethodName := ⟨RX8, "paths", "(II)I"⟩
abbrev cX8_keepPast : ByteArray := prog_10_method_38_code
def yX8_keepPast : MethodName := ⟨RX8, "keepPast", "()V"⟩
abbrev cX8_put : ByteArray := prog_10_method_39_code
def yX8_put : MethodName := ⟨RX8, "put", "(II)I"⟩
abbrev cX8_cut : ByteArray := prog_10_method_40_code
def yX8_cut : MethodName := ⟨RX8, "cut", "(I)I"⟩
abbrev cX8_about : ByteArray := prog_10_method_41_code
def yX8_about : MethodName := ⟨RX8, "about", "(I)I"⟩
abbrev cX8_turn : ByteArray := prog_10_method_42_code
def yX8_turn : MethodName := ⟨RX8, "turn", "(I)I"⟩
abbrev cX8_set : ByteArray := prog_10_method_43_code
def yX8_set : MethodName := ⟨RX8, "set", "(II)I"⟩
abbrev cX8_becomes : ByteArray := prog_10_method_44_code
def yX8_becomes : MethodName := ⟨RX8, "becomes", "()Z"⟩
abbrev cX8_shifts : ByteArray := prog_10_method_45_code
def yX8_shifts : MethodName := ⟨RX8, "shifts", "(Z)V"⟩
abbrev cX8_shift : ByteArray := prog_10_method_46_code
def yX8_shift : MethodName := ⟨RX8, "shift", "(I)I"⟩
abbrev cX8_take : ByteArray := prog_10_method_47_code
def yX8_take : MethodName := ⟨RX8, "take", "(I)I"⟩
abbrev cX8_undo : ByteArray := prog_10_method_48_code
def yX8_undo : MethodName := ⟨RX8, "undo", "()I"⟩
abbrev cX8_keep : ByteArray := prog_10_method_49_code
def yX8_keep : MethodName := ⟨RX8, "keep", "(I)I"⟩
abbrev cX8_back : ByteArray := prog_10_method_50_code
def yX8_back : MethodName := ⟨RX8, "back", "(I)I"⟩
abbrev cX8_tits : ByteArray := prog_10_method_51_code
def yX8_tits : MethodName := ⟨RX8, "tits", "()I"⟩
abbrev cX8_turned : ByteArray := prog_10_method_52_code
def yX8_turned : MethodName := ⟨RX8, "turned", "(I)I"⟩
abbrev cX8_root : ByteArray := prog_10_method_53_code
def yX8_root : MethodName := ⟨RX8, "root", "(II)I"⟩
abbrev cX8_tauOf : ByteArray := prog_10_method_54_code
def yX8_tauOf : MethodName := ⟨RX8, "tauOf", "(I)I"⟩
abbrev cX8_steps : ByteArray := prog_10_method_55_code
def yX8_steps : MethodName := ⟨RX8, "steps", "(I)I"⟩
abbrev cX8_projective : ByteArray := prog_10_method_56_code
def yX8_projective : MethodName := ⟨RX8, "projective", "(I)I"⟩
abbrev cX8_injective : ByteArray := prog_10_method_57_code
def yX8_injective : MethodName := ⟨RX8, "injective", "(I)I"⟩
abbrev cX8_foot : ByteArray := prog_10_method_58_code
def yX8_foot : MethodName := ⟨RX8, "foot", "(I)I"⟩
abbrev cX8_mesh : ByteArray := prog_10_method_59_code
def yX8_mesh : MethodName := ⟨RX8, "mesh", "(I)I"⟩
abbrev cX8_place : ByteArray := prog_10_method_60_code
def yX8_place : MethodName := ⟨RX8, "place", "(II)I"⟩
abbrev cX8_between : ByteArray := prog_10_method_61_code
def yX8_between : MethodName := ⟨RX8, "between", "(III)I"⟩
abbrev cX8_find : ByteArray := prog_10_method_62_code
def yX8_find : MethodName := ⟨RX8, "find", "()I"⟩
abbrev cX8_fits : ByteArray := prog_10_method_63_code
def yX8_fits : MethodName := ⟨RX8, "fits", "(I)Z"⟩
abbrev cX8_takes : ByteArray := prog_10_method_64_code
def yX8_takes : MethodName := ⟨RX8, "takes", "(II)V"⟩
abbrev cX8_sums : ByteArray := prog_10_method_65_code
def yX8_sums : MethodName := ⟨RX8, "sums", "()I"⟩
abbrev cX8_isShelf : ByteArray := prog_10_method_66_code
def yX8_isShelf : MethodName := ⟨RX8, "isShelf", "(I)Z"⟩
abbrev cX8_shelf : ByteArray := prog_10_method_67_code
def yX8_shelf : MethodName := ⟨RX8, "shelf", "(I)I"⟩
abbrev cX8_lay : ByteArray := prog_10_method_68_code
def yX8_lay : MethodName := ⟨RX8, "lay", "(I)I"⟩
abbrev cX8_finds : ByteArray := prog_10_method_69_code
def yX8_finds : MethodName := ⟨RX8, "finds", "(I)I"⟩
abbrev cX8_lastAt : ByteArray := prog_10_method_70_code
def yX8_lastAt : MethodName := ⟨RX8, "lastAt", "(I)I"⟩
abbrev cX8_draw : ByteArray := prog_10_method_71_code
def yX8_draw : MethodName := ⟨RX8, "draw", "(I)I"⟩
abbrev cX8_add : ByteArray := prog_10_method_72_code
def yX8_add : MethodName := ⟨RX8, "add", "(I)I"⟩
abbrev cX8_euler : ByteArray := prog_10_method_73_code
def yX8_euler : MethodName := ⟨RX8, "euler", "(II)I"⟩
abbrev cX8_drop : ByteArray := prog_10_method_74_code
def yX8_drop : MethodName := ⟨RX8, "drop", "(I)I"⟩
abbrev cX8_deepest : ByteArray := prog_10_method_75_code
def yX8_deepest : MethodName := ⟨RX8, "deepest", "()I"⟩
abbrev cX8_allWays : ByteArray := prog_10_method_76_code
def yX8_allWays : MethodName := ⟨RX8, "allWays", "()I"⟩
abbrev cX8_hangs : ByteArray := prog_10_method_77_code
def yX8_hangs : MethodName := ⟨RX8, "hangs", "()I"⟩
abbrev cX8_ends : ByteArray := prog_10_method_78_code
def yX8_ends : MethodName := ⟨RX8, "ends", "(Z)I"⟩
abbrev cX8_allRows : ByteArray := prog_10_method_79_code
def yX8_allRows : MethodName := ⟨RX8, "allRows", "()I"⟩
abbrev cX8_count : ByteArray := prog_10_method_80_code
def yX8_count : MethodName := ⟨RX8, "count", "(I)I"⟩
def RJ9 : String := "java/lang/Math"
def TJ9 : u_T := fun k => match k with
  | _ => ("", "", "", false)
def tyJ9 : Nat → FieldType := fun k => match k with
  | _ => .int
abbrev cJ9_max_7cf53 : ByteArray := prog_11_method_65_code
def yJ9_max_7cf53 : MethodName := ⟨RJ9, "max", "(II)I"⟩
abbrev cJ9_min_7cf53 : ByteArray := prog_11_method_69_code
def yJ9_min_7cf53 : MethodName := ⟨RJ9, "min", "(II)I"⟩
def RJ0 : String := "java/lang/String"
def TJ0 : u_T := fun k => match k with
  | _ => ("", "", "", false)
def tyJ0 : Nat → FieldType := fun k => match k with
  | _ => .int
abbrev cJ0_length_8abf5 : ByteArray := prog_12_method_54_code
def yJ0_length_8abf5 : MethodName := ⟨RJ0, "length", "()I"⟩
abbrev cJ0_charAt_5068e : ByteArray := prog_12_method_56_code
def yJ0_charAt_5068e : MethodName := ⟨RJ0, "charAt", "(I)C"⟩
abbrev cJ0_coder_7d493 : ByteArray := prog_12_method_152_code
def yJ0_coder_7d493 : MethodName := ⟨RJ0, "coder", "()B"⟩
abbrev cJ0_isLatin1_aae02 : ByteArray := prog_12_method_154_code
def yJ0_isLatin1_aae02 : MethodName := ⟨RJ0, "isLatin1", "()Z"⟩
abbrev cJ0_checkIndex_df160 : ByteArray := prog_12_method_155_code
def yJ0_checkIndex_df160 : MethodName := ⟨RJ0, "checkIndex", "(II)V"⟩
def RJ1 : String := "java/lang/StringLatin1"
def TJ1 : u_T := fun k => match k with
  | _ => ("", "", "", false)
def tyJ1 : Nat → FieldType := fun k => match k with
  | _ => .int
abbrev cJ1_charAt_3b067 : ByteArray := prog_13_method_2_code
def yJ1_charAt_3b067 : MethodName := ⟨RJ1, "charAt", "([BI)C"⟩
def RJ2 : String := "java/lang/StringUTF16"
def TJ2 : u_T := fun k => match k with
  | _ => ("", "", "", false)
def tyJ2 : Nat → FieldType := fun k => match k with
  | _ => .int
abbrev cJ2_getChar_3b067 : ByteArray := prog_14_method_5_code
def yJ2_getChar_3b067 : MethodName := ⟨RJ2, "getChar", "([BI)C"⟩
abbrev cJ2_length_9d52b : ByteArray := prog_14_method_6_code
def yJ2_length_9d52b : MethodName := ⟨RJ2, "length", "([B)I"⟩
abbrev cJ2_charAt_3b067 : ByteArray := prog_14_method_83_code
def yJ2_charAt_3b067 : MethodName := ⟨RJ2, "charAt", "([BI)C"⟩
abbrev cJ2_checkIndex_2214a : ByteArray := prog_14_method_91_code
def yJ2_checkIndex_2214a : MethodName := ⟨RJ2, "checkIndex", "(I[B)V"⟩
def RJ10 : String := "java/lang/System"
def TJ10 : u_T := fun k => match k with
  | _ => ("", "", "", false)
def tyJ10 : Nat → FieldType := fun k => match k with
  | _ => .int
def RJ3 : String := "jdk/internal/util/Preconditions"
def TJ3 : u_T := fun k => match k with
  | _ => ("", "", "", false)
def tyJ3 : Nat → FieldType := fun k => match k with
  | _ => .int
abbrev cJ3_checkIndex_8e157 : ByteArray := prog_16_method_11_code
def yJ3_checkIndex_8e157 : MethodName := ⟨RJ3, "checkIndex", "(IILjava/util/function/BiFunction;)I"⟩
def RL : String := "QuiverDeskLaw"
abbrev cL_law : ByteArray := code
abbrev vwCl : List vw_C := [(RX0, TX0, 5), (RX1, TX1, 3), (RX2, TX2, 5), (RX3, TX3, 13), (RX4, TX4, 4), (RX5, TX5, 6), (RX6, TX6, 3), (RX7, TX7, 13), (RX8, TX8, 30)]

/-- a private method of a class that the tables say can be made, by its rows of tables_1 -/
def lw_okq (q : MethodName × Nat) : Prop := (q.1.cls ≠ "java/lang/invoke/MethodHandle" ∧ q.1.cls ≠ "java/lang/invoke/VarHandle") ∧ Cond.instantiable q.1.cls q.2 ∈ tables_1 ∧ Cond.privateMethod q.1 ∈ tables_1 ∧ Cond.instanceMethod q.1 ∈ tables_1
theorem lw_p0 : lw_okq (⟨"DarkLeavers$Text", "readToken", "()V"⟩, 11) := ⟨⟨by decide +kernel, by decide +kernel⟩, List.mem_of_getElem? (i := 23) (by decide +kernel), List.mem_of_getElem? (i := 268) (by decide +kernel), List.mem_of_getElem? (i := 269) (by decide +kernel)⟩
theorem lw_p1 : lw_okq (⟨"DarkLeavers$Text", "takeWord", "()V"⟩, 11) := ⟨⟨by decide +kernel, by decide +kernel⟩, List.mem_of_getElem? (i := 23) (by decide +kernel), List.mem_of_getElem? (i := 275) (by decide +kernel), List.mem_of_getElem? (i := 276) (by decide +kernel)⟩
theorem lw_p2 : lw_okq (⟨"DarkLeavers$Text", "wordIs", "(Ljava/lang/String;)Z"⟩, 11) := ⟨⟨by decide +kernel, by decide +kernel⟩, List.mem_of_getElem? (i := 23) (by decide +kernel), List.mem_of_getElem? (i := 280) (by decide +kernel), List.mem_of_getElem? (i := 281) (by decide +kernel)⟩
theorem lw_p3 : lw_okq (⟨"DarkLeavers$Text", "takeNumber", "()V"⟩, 11) := ⟨⟨by decide +kernel, by decide +kernel⟩, List.mem_of_getElem? (i := 23) (by decide +kernel), List.mem_of_getElem? (i := 340) (by decide +kernel), List.mem_of_getElem? (i := 341) (by decide +kernel)⟩
theorem lw_p4 : lw_okq (⟨"DarkLeavers$Text", "accept", "(LDarkLeavers$Hall;)Z"⟩, 11) := ⟨⟨by decide +kernel, by decide +kernel⟩, List.mem_of_getElem? (i := 23) (by decide +kernel), List.mem_of_getElem? (i := 347) (by decide +kernel), List.mem_of_getElem? (i := 348) (by decide +kernel)⟩
theorem lw_p5 : lw_okq (⟨"DarkLeavers$Text", "beginItem", "(LDarkLeavers$Hall;)Z"⟩, 11) := ⟨⟨by decide +kernel, by decide +kernel⟩, List.mem_of_getElem? (i := 23) (by decide +kernel), List.mem_of_getElem? (i := 351) (by decide +kernel), List.mem_of_getElem? (i := 352) (by decide +kernel)⟩
theorem lw_p6 : lw_okq (⟨"DarkLeavers$Text", "acceptNumber", "(LDarkLeavers$Hall;)Z"⟩, 11) := ⟨⟨by decide +kernel, by decide +kernel⟩, List.mem_of_getElem? (i := 23) (by decide +kernel), List.mem_of_getElem? (i := 358) (by decide +kernel), List.mem_of_getElem? (i := 359) (by decide +kernel)⟩
theorem lw_p7 : lw_okq (⟨"DarkLeavers$Text", "greatest", "(LDarkLeavers$Hall;)I"⟩, 11) := ⟨⟨by decide +kernel, by decide +kernel⟩, List.mem_of_getElem? (i := 23) (by decide +kernel), List.mem_of_getElem? (i := 362) (by decide +kernel), List.mem_of_getElem? (i := 363) (by decide +kernel)⟩
theorem lw_p8 : lw_okq (⟨"DarkLeavers$Text", "cellTold", "(LDarkLeavers$Hall;)I"⟩, 11) := ⟨⟨by decide +kernel, by decide +kernel⟩, List.mem_of_getElem? (i := 23) (by decide +kernel), List.mem_of_getElem? (i := 366) (by decide +kernel), List.mem_of_getElem? (i := 367) (by decide +kernel)⟩
theorem lw_p9 : lw_okq (⟨"DarkLeavers$Text", "endItem", "(LDarkLeavers$Hall;)V"⟩, 11) := ⟨⟨by decide +kernel, by decide +kernel⟩, List.mem_of_getElem? (i := 23) (by decide +kernel), List.mem_of_getElem? (i := 373) (by decide +kernel), List.mem_of_getElem? (i := 374) (by decide +kernel)⟩
theorem lw_p10 : lw_okq (⟨"DarkLeavers", "beginAnew", "()V"⟩, 9) := ⟨⟨by decide +kernel, by decide +kernel⟩, List.mem_of_getElem? (i := 15) (by decide +kernel), List.mem_of_getElem? (i := 385) (by decide +kernel), List.mem_of_getElem? (i := 386) (by decide +kernel)⟩
theorem lw_p11 : lw_okq (⟨"DarkLeavers$Hall", "shineFrom", "(II)I"⟩, 15) := ⟨⟨by decide +kernel, by decide +kernel⟩, List.mem_of_getElem? (i := 103) (by decide +kernel), List.mem_of_getElem? (i := 393) (by decide +kernel), List.mem_of_getElem? (i := 394) (by decide +kernel)⟩
theorem lw_p12 : lw_okq (⟨"DarkLeavers$Hall", "spread", "(III)I"⟩, 15) := ⟨⟨by decide +kernel, by decide +kernel⟩, List.mem_of_getElem? (i := 103) (by decide +kernel), List.mem_of_getElem? (i := 401) (by decide +kernel), List.mem_of_getElem? (i := 402) (by decide +kernel)⟩
theorem lw_p13 : lw_okq (⟨"DarkLeavers$Hall", "beside", "(I)I"⟩, 15) := ⟨⟨by decide +kernel, by decide +kernel⟩, List.mem_of_getElem? (i := 103) (by decide +kernel), List.mem_of_getElem? (i := 405) (by decide +kernel), List.mem_of_getElem? (i := 406) (by decide +kernel)⟩
theorem lw_p14 : lw_okq (⟨"DarkLeavers$Hall", "fillLight", "(II)V"⟩, 15) := ⟨⟨by decide +kernel, by decide +kernel⟩, List.mem_of_getElem? (i := 103) (by decide +kernel), List.mem_of_getElem? (i := 409) (by decide +kernel), List.mem_of_getElem? (i := 410) (by decide +kernel)⟩
theorem lw_p15 : lw_okq (⟨"DarkLeavers$Hall", "lightOf", "(I)I"⟩, 15) := ⟨⟨by decide +kernel, by decide +kernel⟩, List.mem_of_getElem? (i := 103) (by decide +kernel), List.mem_of_getElem? (i := 413) (by decide +kernel), List.mem_of_getElem? (i := 414) (by decide +kernel)⟩
def lw_privs_1 : List (MethodName × Nat) := [(⟨"DarkLeavers$Text", "readToken", "()V"⟩, 11), (⟨"DarkLeavers$Text", "takeWord", "()V"⟩, 11), (⟨"DarkLeavers$Text", "wordIs", "(Ljava/lang/String;)Z"⟩, 11), (⟨"DarkLeavers$Text", "takeNumber", "()V"⟩, 11), (⟨"DarkLeavers$Text", "accept", "(LDarkLeavers$Hall;)Z"⟩, 11), (⟨"DarkLeavers$Text", "beginItem", "(LDarkLeavers$Hall;)Z"⟩, 11), (⟨"DarkLeavers$Text", "acceptNumber", "(LDarkLeavers$Hall;)Z"⟩, 11), (⟨"DarkLeavers$Text", "greatest", "(LDarkLeavers$Hall;)I"⟩, 11), (⟨"DarkLeavers$Text", "cellTold", "(LDarkLeavers$Hall;)I"⟩, 11), (⟨"DarkLeavers$Text", "endItem", "(LDarkLeavers$Hall;)V"⟩, 11), (⟨"DarkLeavers", "beginAnew", "()V"⟩, 9), (⟨"DarkLeavers$Hall", "shineFrom", "(II)I"⟩, 15), (⟨"DarkLeavers$Hall", "spread", "(III)I"⟩, 15), (⟨"DarkLeavers$Hall", "beside", "(I)I"⟩, 15), (⟨"DarkLeavers$Hall", "fillLight", "(II)V"⟩, 15), (⟨"DarkLeavers$Hall", "lightOf", "(I)I"⟩, 15)]
theorem lw_r1 : ∀ q ∈ lw_privs_1, lw_okq q := List.forall_mem_cons.mpr ⟨lw_p0, List.forall_mem_cons.mpr ⟨lw_p1, List.forall_mem_cons.mpr ⟨lw_p2, List.forall_mem_cons.mpr ⟨lw_p3, List.forall_mem_cons.mpr ⟨lw_p4, List.forall_mem_cons.mpr ⟨lw_p5, List.forall_mem_cons.mpr ⟨lw_p6, List.forall_mem_cons.mpr ⟨lw_p7, List.forall_mem_cons.mpr ⟨lw_p8, List.forall_mem_cons.mpr ⟨lw_p9, List.forall_mem_cons.mpr ⟨lw_p10, List.forall_mem_cons.mpr ⟨lw_p11, List.forall_mem_cons.mpr ⟨lw_p12, List.forall_mem_cons.mpr ⟨lw_p13, List.forall_mem_cons.mpr ⟨lw_p14, List.forall_mem_cons.mpr ⟨lw_p15, fun _ h => absurd h List.not_mem_nil⟩⟩⟩⟩⟩⟩⟩⟩⟩⟩⟩⟩⟩⟩⟩⟩
theorem lw_p16 : lw_okq (⟨"DarkLeavers$Hall", "leaversIn", "(I)I"⟩, 15) := ⟨⟨by decide +kernel, by decide +kernel⟩, List.mem_of_getElem? (i := 103) (by decide +kernel), List.mem_of_getElem? (i := 418) (by decide +kernel), List.mem_of_getElem? (i := 419) (by decide +kernel)⟩
theorem lw_p17 : lw_okq (⟨"DarkLeavers", "isCell", "(I)Z"⟩, 9) := ⟨⟨by decide +kernel, by decide +kernel⟩, List.mem_of_getElem? (i := 15) (by decide +kernel), List.mem_of_getElem? (i := 435) (by decide +kernel), List.mem_of_getElem? (i := 436) (by decide +kernel)⟩
theorem lw_p18 : lw_okq (⟨"DarkLeavers", "litNow", "()I"⟩, 9) := ⟨⟨by decide +kernel, by decide +kernel⟩, List.mem_of_getElem? (i := 15) (by decide +kernel), List.mem_of_getElem? (i := 441) (by decide +kernel), List.mem_of_getElem? (i := 442) (by decide +kernel)⟩
theorem lw_p19 : lw_okq (⟨"DarkLeavers", "isLamp", "(I)Z"⟩, 9) := ⟨⟨by decide +kernel, by decide +kernel⟩, List.mem_of_getElem? (i := 15) (by decide +kernel), List.mem_of_getElem? (i := 453) (by decide +kernel), List.mem_of_getElem? (i := 454) (by decide +kernel)⟩
theorem lw_p20 : lw_okq (⟨"DarkLeavers", "isPerson", "(I)Z"⟩, 9) := ⟨⟨by decide +kernel, by decide +kernel⟩, List.mem_of_getElem? (i := 15) (by decide +kernel), List.mem_of_getElem? (i := 461) (by decide +kernel), List.mem_of_getElem? (i := 462) (by decide +kernel)⟩
theorem lw_p21 : lw_okq (⟨"DarkLeavers", "hasLeft", "(I)Z"⟩, 9) := ⟨⟨by decide +kernel, by decide +kernel⟩, List.mem_of_getElem? (i := 15) (by decide +kernel), List.mem_of_getElem? (i := 473) (by decide +kernel), List.mem_of_getElem? (i := 474) (by decide +kernel)⟩
theorem lw_p22 : lw_okq (⟨"DarkLeavers", "thereNow", "()I"⟩, 9) := ⟨⟨by decide +kernel, by decide +kernel⟩, List.mem_of_getElem? (i := 15) (by decide +kernel), List.mem_of_getElem? (i := 497) (by decide +kernel), List.mem_of_getElem? (i := 498) (by decide +kernel)⟩
theorem lw_p23 : lw_okq (⟨"DarkLeavers$Outlook", "fillLongest", "(II)V"⟩, 8) := ⟨⟨by decide +kernel, by decide +kernel⟩, List.mem_of_getElem? (i := 182) (by decide +kernel), List.mem_of_getElem? (i := 509) (by decide +kernel), List.mem_of_getElem? (i := 510) (by decide +kernel)⟩
theorem lw_p24 : lw_okq (⟨"DarkLeavers$Outlook", "choose", "(III)V"⟩, 8) := ⟨⟨by decide +kernel, by decide +kernel⟩, List.mem_of_getElem? (i := 182) (by decide +kernel), List.mem_of_getElem? (i := 533) (by decide +kernel), List.mem_of_getElem? (i := 534) (by decide +kernel)⟩
theorem lw_p25 : lw_okq (⟨"DarkLeavers$Outlook", "waysFrom", "(IIIII)I"⟩, 8) := ⟨⟨by decide +kernel, by decide +kernel⟩, List.mem_of_getElem? (i := 182) (by decide +kernel), List.mem_of_getElem? (i := 554) (by decide +kernel), List.mem_of_getElem? (i := 555) (by decide +kernel)⟩
theorem lw_p26 : lw_okq (⟨"DarkLeavers$Outlook", "fillTables", "()V"⟩, 8) := ⟨⟨by decide +kernel, by decide +kernel⟩, List.mem_of_getElem? (i := 182) (by decide +kernel), List.mem_of_getElem? (i := 574) (by decide +kernel), List.mem_of_getElem? (i := 575) (by decide +kernel)⟩
theorem lw_p27 : lw_okq (⟨"DarkLeavers$Outlook", "leastGrief", "(II)I"⟩, 8) := ⟨⟨by decide +kernel, by decide +kernel⟩, List.mem_of_getElem? (i := 182) (by decide +kernel), List.mem_of_getElem? (i := 583) (by decide +kernel), List.mem_of_getElem? (i := 584) (by decide +kernel)⟩
theorem lw_p28 : lw_okq (⟨"DarkLeavers$Outlook", "leastGriefBehind", "(II)I"⟩, 8) := ⟨⟨by decide +kernel, by decide +kernel⟩, List.mem_of_getElem? (i := 182) (by decide +kernel), List.mem_of_getElem? (i := 590) (by decide +kernel), List.mem_of_getElem? (i := 591) (by decide +kernel)⟩
theorem lw_p29 : lw_okq (⟨"DarkLeavers$Outlook", "sidesThatWin", "(II)I"⟩, 8) := ⟨⟨by decide +kernel, by decide +kernel⟩, List.mem_of_getElem? (i := 182) (by decide +kernel), List.mem_of_getElem? (i := 594) (by decide +kernel), List.mem_of_getElem? (i := 595) (by decide +kernel)⟩
theorem lw_p30 : lw_okq (⟨"DarkLeavers$Outlook", "canBeat", "(III)Z"⟩, 8) := ⟨⟨by decide +kernel, by decide +kernel⟩, List.mem_of_getElem? (i := 182) (by decide +kernel), List.mem_of_getElem? (i := 598) (by decide +kernel), List.mem_of_getElem? (i := 599) (by decide +kernel)⟩
theorem lw_p31 : lw_okq (⟨"DarkLeavers", "isOpenCell", "(I)Z"⟩, 9) := ⟨⟨by decide +kernel, by decide +kernel⟩, List.mem_of_getElem? (i := 15) (by decide +kernel), List.mem_of_getElem? (i := 614) (by decide +kernel), List.mem_of_getElem? (i := 615) (by decide +kernel)⟩
def lw_privs_2 : List (MethodName × Nat) := [(⟨"DarkLeavers$Hall", "leaversIn", "(I)I"⟩, 15), (⟨"DarkLeavers", "isCell", "(I)Z"⟩, 9), (⟨"DarkLeavers", "litNow", "()I"⟩, 9), (⟨"DarkLeavers", "isLamp", "(I)Z"⟩, 9), (⟨"DarkLeavers", "isPerson", "(I)Z"⟩, 9), (⟨"DarkLeavers", "hasLeft", "(I)Z"⟩, 9), (⟨"DarkLeavers", "thereNow", "()I"⟩, 9), (⟨"DarkLeavers$Outlook", "fillLongest", "(II)V"⟩, 8), (⟨"DarkLeavers$Outlook", "choose", "(III)V"⟩, 8), (⟨"DarkLeavers$Outlook", "waysFrom", "(IIIII)I"⟩, 8), (⟨"DarkLeavers$Outlook", "fillTables", "()V"⟩, 8), (⟨"DarkLeavers$Outlook", "leastGrief", "(II)I"⟩, 8), (⟨"DarkLeavers$Outlook", "leastGriefBehind", "(II)I"⟩, 8), (⟨"DarkLeavers$Outlook", "sidesThatWin", "(II)I"⟩, 8), (⟨"DarkLeavers$Outlook", "canBeat", "(III)Z"⟩, 8), (⟨"DarkLeavers", "isOpenCell", "(I)Z"⟩, 9)]
theorem lw_r2 : ∀ q ∈ lw_privs_2, lw_okq q := List.forall_mem_cons.mpr ⟨lw_p16, List.forall_mem_cons.mpr ⟨lw_p17, List.forall_mem_cons.mpr ⟨lw_p18, List.forall_mem_cons.mpr ⟨lw_p19, List.forall_mem_cons.mpr ⟨lw_p20, List.forall_mem_cons.mpr ⟨lw_p21, List.forall_mem_cons.mpr ⟨lw_p22, List.forall_mem_cons.mpr ⟨lw_p23, List.forall_mem_cons.mpr ⟨lw_p24, List.forall_mem_cons.mpr ⟨lw_p25, List.forall_mem_cons.mpr ⟨lw_p26, List.forall_mem_cons.mpr ⟨lw_p27, List.forall_mem_cons.mpr ⟨lw_p28, List.forall_mem_cons.mpr ⟨lw_p29, List.forall_mem_cons.mpr ⟨lw_p30, List.forall_mem_cons.mpr ⟨lw_p31, fun _ h => absurd h List.not_mem_nil⟩⟩⟩⟩⟩⟩⟩⟩⟩⟩⟩⟩⟩⟩⟩⟩
theorem lw_p32 : lw_okq (⟨"DarkLeavers", "markOfAunt", "(I)I"⟩, 9) := ⟨⟨by decide +kernel, by decide +kernel⟩, List.mem_of_getElem? (i := 15) (by decide +kernel), List.mem_of_getElem? (i := 651) (by decide +kernel), List.mem_of_getElem? (i := 652) (by decide +kernel)⟩
theorem lw_p33 : lw_okq (⟨"DarkLeavers", "markOfGuest", "(I)I"⟩, 9) := ⟨⟨by decide +kernel, by decide +kernel⟩, List.mem_of_getElem? (i := 15) (by decide +kernel), List.mem_of_getElem? (i := 656) (by decide +kernel), List.mem_of_getElem? (i := 657) (by decide +kernel)⟩
theorem lw_p34 : lw_okq (⟨"DarkLeavers", "markOfWaiter", "(I)I"⟩, 9) := ⟨⟨by decide +kernel, by decide +kernel⟩, List.mem_of_getElem? (i := 15) (by decide +kernel), List.mem_of_getElem? (i := 660) (by decide +kernel), List.mem_of_getElem? (i := 661) (by decide +kernel)⟩
theorem lw_p35 : lw_okq (⟨"DarkLeavers", "markOfGreatAunt", "(I)I"⟩, 9) := ⟨⟨by decide +kernel, by decide +kernel⟩, List.mem_of_getElem? (i := 15) (by decide +kernel), List.mem_of_getElem? (i := 666) (by decide +kernel), List.mem_of_getElem? (i := 667) (by decide +kernel)⟩
theorem lw_p36 : lw_okq (⟨"DarkLeavers", "markOfPorter", "(I)I"⟩, 9) := ⟨⟨by decide +kernel, by decide +kernel⟩, List.mem_of_getElem? (i := 15) (by decide +kernel), List.mem_of_getElem? (i := 671) (by decide +kernel), List.mem_of_getElem? (i := 672) (by decide +kernel)⟩
theorem lw_p37 : lw_okq (⟨"DarkLeavers", "markOfFiddler", "(I)I"⟩, 9) := ⟨⟨by decide +kernel, by decide +kernel⟩, List.mem_of_getElem? (i := 15) (by decide +kernel), List.mem_of_getElem? (i := 676) (by decide +kernel), List.mem_of_getElem? (i := 677) (by decide +kernel)⟩
theorem lw_p38 : lw_okq (⟨"DarkLeavers", "imageOf", "(I)LDarkLeavers$Now;"⟩, 9) := ⟨⟨by decide +kernel, by decide +kernel⟩, List.mem_of_getElem? (i := 15) (by decide +kernel), List.mem_of_getElem? (i := 685) (by decide +kernel), List.mem_of_getElem? (i := 686) (by decide +kernel)⟩
theorem lw_p39 : lw_okq (⟨"DarkLeaversModel", "reads", "()Z"⟩, 17) := ⟨⟨by decide +kernel, by decide +kernel⟩, List.mem_of_getElem? (i := 708) (by decide +kernel), List.mem_of_getElem? (i := 782) (by decide +kernel), List.mem_of_getElem? (i := 783) (by decide +kernel)⟩
theorem lw_p40 : lw_okq (⟨"DarkLeaversModel", "token", "()V"⟩, 17) := ⟨⟨by decide +kernel, by decide +kernel⟩, List.mem_of_getElem? (i := 708) (by decide +kernel), List.mem_of_getElem? (i := 786) (by decide +kernel), List.mem_of_getElem? (i := 787) (by decide +kernel)⟩
theorem lw_p41 : lw_okq (⟨"DarkLeaversModel", "byteAt", "(I)I"⟩, 17) := ⟨⟨by decide +kernel, by decide +kernel⟩, List.mem_of_getElem? (i := 708) (by decide +kernel), List.mem_of_getElem? (i := 790) (by decide +kernel), List.mem_of_getElem? (i := 791) (by decide +kernel)⟩
theorem lw_p42 : lw_okq (⟨"DarkLeaversModel", "verb", "()I"⟩, 17) := ⟨⟨by decide +kernel, by decide +kernel⟩, List.mem_of_getElem? (i := 708) (by decide +kernel), List.mem_of_getElem? (i := 797) (by decide +kernel), List.mem_of_getElem? (i := 798) (by decide +kernel)⟩
theorem lw_p43 : lw_okq (⟨"DarkLeaversModel", "readsItem", "(I)Z"⟩, 17) := ⟨⟨by decide +kernel, by decide +kernel⟩, List.mem_of_getElem? (i := 708) (by decide +kernel), List.mem_of_getElem? (i := 808) (by decide +kernel), List.mem_of_getElem? (i := 809) (by decide +kernel)⟩
theorem lw_p44 : lw_okq (⟨"DarkLeaversModel", "number", "(II)I"⟩, 17) := ⟨⟨by decide +kernel, by decide +kernel⟩, List.mem_of_getElem? (i := 708) (by decide +kernel), List.mem_of_getElem? (i := 812) (by decide +kernel), List.mem_of_getElem? (i := 813) (by decide +kernel)⟩
theorem lw_p45 : lw_okq (⟨"DarkLeaversModel", "readsHall", "()Z"⟩, 17) := ⟨⟨by decide +kernel, by decide +kernel⟩, List.mem_of_getElem? (i := 708) (by decide +kernel), List.mem_of_getElem? (i := 816) (by decide +kernel), List.mem_of_getElem? (i := 817) (by decide +kernel)⟩
theorem lw_p46 : lw_okq (⟨"DarkLeaversModel", "readsLamp", "()Z"⟩, 17) := ⟨⟨by decide +kernel, by decide +kernel⟩, List.mem_of_getElem? (i := 708) (by decide +kernel), List.mem_of_getElem? (i := 820) (by decide +kernel), List.mem_of_getElem? (i := 821) (by decide +kernel)⟩
theorem lw_p47 : lw_okq (⟨"DarkLeaversModel", "place", "(Z)I"⟩, 17) := ⟨⟨by decide +kernel, by decide +kernel⟩, List.mem_of_getElem? (i := 708) (by decide +kernel), List.mem_of_getElem? (i := 824) (by decide +kernel), List.mem_of_getElem? (i := 825) (by decide +kernel)⟩
def lw_privs_3 : List (MethodName × Nat) := [(⟨"DarkLeavers", "markOfAunt", "(I)I"⟩, 9), (⟨"DarkLeavers", "markOfGuest", "(I)I"⟩, 9), (⟨"DarkLeavers", "markOfWaiter", "(I)I"⟩, 9), (⟨"DarkLeavers", "markOfGreatAunt", "(I)I"⟩, 9), (⟨"DarkLeavers", "markOfPorter", "(I)I"⟩, 9), (⟨"DarkLeavers", "markOfFiddler", "(I)I"⟩, 9), (⟨"DarkLeavers", "imageOf", "(I)LDarkLeavers$Now;"⟩, 9), (⟨"DarkLeaversModel", "reads", "()Z"⟩, 17), (⟨"DarkLeaversModel", "token", "()V"⟩, 17), (⟨"DarkLeaversModel", "byteAt", "(I)I"⟩, 17), (⟨"DarkLeaversModel", "verb", "()I"⟩, 17), (⟨"DarkLeaversModel", "readsItem", "(I)Z"⟩, 17), (⟨"DarkLeaversModel", "number", "(II)I"⟩, 17), (⟨"DarkLeaversModel", "readsHall", "()Z"⟩, 17), (⟨"DarkLeaversModel", "readsLamp", "()Z"⟩, 17), (⟨"DarkLeaversModel", "place", "(Z)I"⟩, 17)]
theorem lw_r3 : ∀ q ∈ lw_privs_3, lw_okq q := List.forall_mem_cons.mpr ⟨lw_p32, List.forall_mem_cons.mpr ⟨lw_p33, List.forall_mem_cons.mpr ⟨lw_p34, List.forall_mem_cons.mpr ⟨lw_p35, List.forall_mem_cons.mpr ⟨lw_p36, List.forall_mem_cons.mpr ⟨lw_p37, List.forall_mem_cons.mpr ⟨lw_p38, List.forall_mem_cons.mpr ⟨lw_p39, List.forall_mem_cons.mpr ⟨lw_p40, List.forall_mem_cons.mpr ⟨lw_p41, List.forall_mem_cons.mpr ⟨lw_p42, List.forall_mem_cons.mpr ⟨lw_p43, List.forall_mem_cons.mpr ⟨lw_p44, List.forall_mem_cons.mpr ⟨lw_p45, List.forall_mem_cons.mpr ⟨lw_p46, List.forall_mem_cons.mpr ⟨lw_p47, fun _ h => absurd h List.not_mem_nil⟩⟩⟩⟩⟩⟩⟩⟩⟩⟩⟩⟩⟩⟩⟩⟩
theorem lw_p48 : lw_okq (⟨"DarkLeaversModel", "readsPerson", "()Z"⟩, 17) := ⟨⟨by decide +kernel, by decide +kernel⟩, List.mem_of_getElem? (i := 708) (by decide +kernel), List.mem_of_getElem? (i := 828) (by decide +kernel), List.mem_of_getElem? (i := 829) (by decide +kernel)⟩
theorem lw_p49 : lw_okq (⟨"DarkLeaversModel", "readsCell", "(I)Z"⟩, 17) := ⟨⟨by decide +kernel, by decide +kernel⟩, List.mem_of_getElem? (i := 708) (by decide +kernel), List.mem_of_getElem? (i := 832) (by decide +kernel), List.mem_of_getElem? (i := 833) (by decide +kernel)⟩
theorem lw_p50 : lw_okq (⟨"DarkLeaversModel", "isCell", "(I)Z"⟩, 17) := ⟨⟨by decide +kernel, by decide +kernel⟩, List.mem_of_getElem? (i := 708) (by decide +kernel), List.mem_of_getElem? (i := 840) (by decide +kernel), List.mem_of_getElem? (i := 841) (by decide +kernel)⟩
theorem lw_p51 : lw_okq (⟨"DarkLeaversModel", "cells", "()I"⟩, 17) := ⟨⟨by decide +kernel, by decide +kernel⟩, List.mem_of_getElem? (i := 708) (by decide +kernel), List.mem_of_getElem? (i := 844) (by decide +kernel), List.mem_of_getElem? (i := 845) (by decide +kernel)⟩
theorem lw_p52 : lw_okq (⟨"DarkLeaversModel", "lights", "(I)V"⟩, 17) := ⟨⟨by decide +kernel, by decide +kernel⟩, List.mem_of_getElem? (i := 708) (by decide +kernel), List.mem_of_getElem? (i := 848) (by decide +kernel), List.mem_of_getElem? (i := 849) (by decide +kernel)⟩
theorem lw_p53 : lw_okq (⟨"DarkLeaversModel", "shines", "(II)I"⟩, 17) := ⟨⟨by decide +kernel, by decide +kernel⟩, List.mem_of_getElem? (i := 708) (by decide +kernel), List.mem_of_getElem? (i := 852) (by decide +kernel), List.mem_of_getElem? (i := 853) (by decide +kernel)⟩
theorem lw_p54 : lw_okq (⟨"DarkLeaversModel", "wider", "(II)I"⟩, 17) := ⟨⟨by decide +kernel, by decide +kernel⟩, List.mem_of_getElem? (i := 708) (by decide +kernel), List.mem_of_getElem? (i := 856) (by decide +kernel), List.mem_of_getElem? (i := 857) (by decide +kernel)⟩
theorem lw_p55 : lw_okq (⟨"DarkLeaversModel", "many", "(Z)I"⟩, 17) := ⟨⟨by decide +kernel, by decide +kernel⟩, List.mem_of_getElem? (i := 708) (by decide +kernel), List.mem_of_getElem? (i := 860) (by decide +kernel), List.mem_of_getElem? (i := 861) (by decide +kernel)⟩
theorem lw_p56 : lw_okq (⟨"DarkLeaversModel", "allLit", "()I"⟩, 17) := ⟨⟨by decide +kernel, by decide +kernel⟩, List.mem_of_getElem? (i := 708) (by decide +kernel), List.mem_of_getElem? (i := 864) (by decide +kernel), List.mem_of_getElem? (i := 865) (by decide +kernel)⟩
theorem lw_p57 : lw_okq (⟨"DarkLeaversModel", "litOf", "(I)I"⟩, 17) := ⟨⟨by decide +kernel, by decide +kernel⟩, List.mem_of_getElem? (i := 708) (by decide +kernel), List.mem_of_getElem? (i := 868) (by decide +kernel), List.mem_of_getElem? (i := 869) (by decide +kernel)⟩
theorem lw_p58 : lw_okq (⟨"DarkLeaversModel", "toDoors", "(I)I"⟩, 17) := ⟨⟨by decide +kernel, by decide +kernel⟩, List.mem_of_getElem? (i := 708) (by decide +kernel), List.mem_of_getElem? (i := 872) (by decide +kernel), List.mem_of_getElem? (i := 873) (by decide +kernel)⟩
theorem lw_p59 : lw_okq (⟨"DarkLeaversModel", "lit", "()I"⟩, 17) := ⟨⟨by decide +kernel, by decide +kernel⟩, List.mem_of_getElem? (i := 708) (by decide +kernel), List.mem_of_getElem? (i := 876) (by decide +kernel), List.mem_of_getElem? (i := 877) (by decide +kernel)⟩
theorem lw_p60 : lw_okq (⟨"DarkLeaversModel", "isLamp", "(I)Z"⟩, 17) := ⟨⟨by decide +kernel, by decide +kernel⟩, List.mem_of_getElem? (i := 708) (by decide +kernel), List.mem_of_getElem? (i := 884) (by decide +kernel), List.mem_of_getElem? (i := 885) (by decide +kernel)⟩
theorem lw_p61 : lw_okq (⟨"DarkLeaversModel", "isPerson", "(I)Z"⟩, 17) := ⟨⟨by decide +kernel, by decide +kernel⟩, List.mem_of_getElem? (i := 708) (by decide +kernel), List.mem_of_getElem? (i := 892) (by decide +kernel), List.mem_of_getElem? (i := 893) (by decide +kernel)⟩
theorem lw_p62 : lw_okq (⟨"DarkLeaversModel", "gone", "()I"⟩, 17) := ⟨⟨by decide +kernel, by decide +kernel⟩, List.mem_of_getElem? (i := 708) (by decide +kernel), List.mem_of_getElem? (i := 900) (by decide +kernel), List.mem_of_getElem? (i := 901) (by decide +kernel)⟩
theorem lw_p63 : lw_okq (⟨"DarkLeaversModel", "mosts", "(I)V"⟩, 17) := ⟨⟨by decide +kernel, by decide +kernel⟩, List.mem_of_getElem? (i := 708) (by decide +kernel), List.mem_of_getElem? (i := 916) (by decide +kernel), List.mem_of_getElem? (i := 917) (by decide +kernel)⟩
def lw_privs_4 : List (MethodName × Nat) := [(⟨"DarkLeaversModel", "readsPerson", "()Z"⟩, 17), (⟨"DarkLeaversModel", "readsCell", "(I)Z"⟩, 17), (⟨"DarkLeaversModel", "isCell", "(I)Z"⟩, 17), (⟨"DarkLeaversModel", "cells", "()I"⟩, 17), (⟨"DarkLeaversModel", "lights", "(I)V"⟩, 17), (⟨"DarkLeaversModel", "shines", "(II)I"⟩, 17), (⟨"DarkLeaversModel", "wider", "(II)I"⟩, 17), (⟨"DarkLeaversModel", "many", "(Z)I"⟩, 17), (⟨"DarkLeaversModel", "allLit", "()I"⟩, 17), (⟨"DarkLeaversModel", "litOf", "(I)I"⟩, 17), (⟨"DarkLeaversModel", "toDoors", "(I)I"⟩, 17), (⟨"DarkLeaversModel", "lit", "()I"⟩, 17), (⟨"DarkLeaversModel", "isLamp", "(I)Z"⟩, 17), (⟨"DarkLeaversModel", "isPerson", "(I)Z"⟩, 17), (⟨"DarkLeaversModel", "gone", "()I"⟩, 17), (⟨"DarkLeaversModel", "mosts", "(I)V"⟩, 17)]
theorem lw_r4 : ∀ q ∈ lw_privs_4, lw_okq q := List.forall_mem_cons.mpr ⟨lw_p48, List.forall_mem_cons.mpr ⟨lw_p49, List.forall_mem_cons.mpr ⟨lw_p50, List.forall_mem_cons.mpr ⟨lw_p51, List.forall_mem_cons.mpr ⟨lw_p52, List.forall_mem_cons.mpr ⟨lw_p53, List.forall_mem_cons.mpr ⟨lw_p54, List.forall_mem_cons.mpr ⟨lw_p55, List.forall_mem_cons.mpr ⟨lw_p56, List.forall_mem_cons.mpr ⟨lw_p57, List.forall_mem_cons.mpr ⟨lw_p58, List.forall_mem_cons.mpr ⟨lw_p59, List.forall_mem_cons.mpr ⟨lw_p60, List.forall_mem_cons.mpr ⟨lw_p61, List.forall_mem_cons.mpr ⟨lw_p62, List.forall_mem_cons.mpr ⟨lw_p63, fun _ h => absurd h List.not_mem_nil⟩⟩⟩⟩⟩⟩⟩⟩⟩⟩⟩⟩⟩⟩⟩⟩
theorem lw_p64 : lw_okq (⟨"DarkLeaversModel", "all", "()I"⟩, 17) := ⟨⟨by decide +kernel, by decide +kernel⟩, List.mem_of_getElem? (i := 708) (by decide +kernel), List.mem_of_getElem? (i := 920) (by decide +kernel), List.mem_of_getElem? (i := 921) (by decide +kernel)⟩
theorem lw_p65 : lw_okq (⟨"DarkLeaversModel", "alls", "()V"⟩, 17) := ⟨⟨by decide +kernel, by decide +kernel⟩, List.mem_of_getElem? (i := 708) (by decide +kernel), List.mem_of_getElem? (i := 938) (by decide +kernel), List.mem_of_getElem? (i := 939) (by decide +kernel)⟩
theorem lw_p66 : lw_okq (⟨"DarkLeaversModel", "isWall", "(I)Z"⟩, 17) := ⟨⟨by decide +kernel, by decide +kernel⟩, List.mem_of_getElem? (i := 708) (by decide +kernel), List.mem_of_getElem? (i := 961) (by decide +kernel), List.mem_of_getElem? (i := 962) (by decide +kernel)⟩
theorem lw_p67 : lw_okq (⟨"DarkLeaversModel", "histories", "()V"⟩, 17) := ⟨⟨by decide +kernel, by decide +kernel⟩, List.mem_of_getElem? (i := 708) (by decide +kernel), List.mem_of_getElem? (i := 977) (by decide +kernel), List.mem_of_getElem? (i := 978) (by decide +kernel)⟩
theorem lw_p68 : lw_okq (⟨"DarkLeaversModel", "fitsSeen", "(II)Z"⟩, 17) := ⟨⟨by decide +kernel, by decide +kernel⟩, List.mem_of_getElem? (i := 708) (by decide +kernel), List.mem_of_getElem? (i := 981) (by decide +kernel), List.mem_of_getElem? (i := 982) (by decide +kernel)⟩
def lw_privs_5 : List (MethodName × Nat) := [(⟨"DarkLeaversModel", "all", "()I"⟩, 17), (⟨"DarkLeaversModel", "alls", "()V"⟩, 17), (⟨"DarkLeaversModel", "isWall", "(I)Z"⟩, 17), (⟨"DarkLeaversModel", "histories", "()V"⟩, 17), (⟨"DarkLeaversModel", "fitsSeen", "(II)Z"⟩, 17)]
theorem lw_r5 : ∀ q ∈ lw_privs_5, lw_okq q := List.forall_mem_cons.mpr ⟨lw_p64, List.forall_mem_cons.mpr ⟨lw_p65, List.forall_mem_cons.mpr ⟨lw_p66, List.forall_mem_cons.mpr ⟨lw_p67, List.forall_mem_cons.mpr ⟨lw_p68, fun _ h => absurd h List.not_mem_nil⟩⟩⟩⟩⟩
def lw_privs : List (MethodName × Nat) := lw_privs_1 ++ (lw_privs_2 ++ (lw_privs_3 ++ (lw_privs_4 ++ (lw_privs_5))))
def lw_tbl : List Cond := k2_sels lw_privs ++ tables_1
theorem lw_privs_ok : ∀ q ∈ lw_privs, lw_okq q := by
  show ∀ q ∈ lw_privs_1 ++ (lw_privs_2 ++ (lw_privs_3 ++ (lw_privs_4 ++ (lw_privs_5)))), lw_okq q
  exact List.forall_mem_append.mpr ⟨lw_r1, List.forall_mem_append.mpr ⟨lw_r2, List.forall_mem_append.mpr ⟨lw_r3, List.forall_mem_append.mpr ⟨lw_r4, lw_r5⟩⟩⟩⟩
def RX0 : String := "DarkLeavers$Hall"
def TX0 : u_T := fun k => match k with
  | 0 => ("DarkLeavers$Hall", "wide", "I", false)
  | 1 => ("DarkLeavers$Hall", "high", "I", false)
  | 2 => ("DarkLeavers$Hall", "walls", "I", false)
  | 3 => ("DarkLeavers$Hall", "doors", "I", false)
  | 4 => ("DarkLeavers$Hall", "law", "I", false)
  | 5 => ("DarkLeavers$Hall", "lamps", "I", false)
  | 6 => ("DarkLeavers$Hall", "people", "I", false)
  | 7 => ("DarkLeavers$Hall", "lampCell", "[I", true)
  | 8 => ("DarkLeavers$Hall", "lampReach", "[I", true)
  | 9 => ("DarkLeavers$Hall", "shine", "[I", true)
  | 10 => ("DarkLeavers$Hall", "personCell", "[I", true)
  | 11 => ("DarkLeavers$Hall", "wish", "[I", true)
  | 12 => ("DarkLeavers$Hall", "side", "[I", true)
  | 13 => ("DarkLeavers$Hall", "light", "[I", true)
  | _ => ("DarkLeavers$Hall", "leavers", "[I", true)
def tyX0 : Nat → FieldType := fun k => match k with
  | 0 => .int
  | 1 => .int
  | 2 => .int
  | 3 => .int
  | 4 => .int
  | 5 => .int
  | 6 => .int
  | 7 => .array .int
  | 8 => .array .int
  | 9 => .array .int
  | 10 => .array .int
  | 11 => .array .int
  | 12 => .array .int
  | 13 => .array .int
  | _ => .array .int
abbrev wsX00 : List Cond := u_ws RX0 TX0 15
theorem nmX0 : ∀ a, a < 15 → ∀ b, b < 15 → a ≠ b → (TX0 a).2.1 ≠ (TX0 b).2.1 := by decide +kernel
theorem tyX0_ok : ∀ k, k < 15 → parseFieldDescriptor (TX0 k).2.2.1 = some (tyX0 k) := by decide +kernel
abbrev cX0_init : ByteArray := prog_2_method_1_code
def yX0_init : MethodName := ⟨RX0, "<init>", "()V"⟩
abbrev cX0_empty : ByteArray := prog_2_method_2_code
def yX0_empty : MethodName := ⟨RX0, "empty", "()V"⟩
abbrev cX0_cells : ByteArray := prog_2_method_3_code
def yX0_cells : MethodName := ⟨RX0, "cells", "()I"⟩
abbrev cX0_allLamps : ByteArray := prog_2_method_4_code
def yX0_allLamps : MethodName := ⟨RX0, "allLamps", "()I"⟩
abbrev cX0_allPeople : ByteArray := prog_2_method_5_code
def yX0_allPeople : MethodName := ⟨RX0, "allPeople", "()I"⟩
abbrev cX0_addLamp : ByteArray := prog_2_method_6_code
def yX0_addLamp : MethodName := ⟨RX0, "addLamp", "(II)V"⟩
abbrev cX0_addPerson : ByteArray := prog_2_method_7_code
def yX0_addPerson : MethodName := ⟨RX0, "addPerson", "(III)V"⟩
abbrev cX0_lightUp : ByteArray := prog_2_method_8_code
def yX0_lightUp : MethodName := ⟨RX0, "lightUp", "()V"⟩
abbrev cX0_lightOneMore : ByteArray := prog_2_method_9_code
def yX0_lightOneMore : MethodName := ⟨RX0, "lightOneMore", "(II)V"⟩
abbrev cX0_fillLight : ByteArray := prog_2_method_10_code
def yX0_fillLight : MethodName := ⟨RX0, "fillLight", "(II)V"⟩
abbrev cX0_lightOf : ByteArray := prog_2_method_11_code
def yX0_lightOf : MethodName := ⟨RX0, "lightOf", "(I)I"⟩
abbrev cX0_leaversIn : ByteArray := prog_2_method_12_code
def yX0_leaversIn : MethodName := ⟨RX0, "leaversIn", "(I)I"⟩
abbrev cX0_shineFrom : ByteArray := prog_2_method_13_code
def yX0_shineFrom : MethodName := ⟨RX0, "shineFrom", "(II)I"⟩
abbrev cX0_spread : ByteArray := prog_2_method_14_code
def yX0_spread : MethodName := ⟨RX0, "spread", "(III)I"⟩
abbrev cX0_beside : ByteArray := prog_2_method_15_code
def yX0_beside : MethodName := ⟨RX0, "beside", "(I)I"⟩
def RX1 : String := "DarkLeavers$Now"
def TX1 : u_T := fun k => match k with
  | 0 => ("DarkLeavers$Now", "left", "I", false)
  | 1 => ("DarkLeavers$Now", "gone", "I", false)
  | 2 => ("DarkLeavers$Now", "dark", "I", false)
  | 3 => ("DarkLeavers$Now", "seen", "I", false)
  | 4 => ("DarkLeavers$Now", "leaver", "[I", true)
  | 5 => ("DarkLeavers$Now", "putOut", "[I", true)
  | 6 => ("DarkLeavers$Now", "seenAfter", "[I", true)
  | 7 => ("DarkLeavers$Now", "seenCell", "[I", true)
  | _ => ("DarkLeavers$Now", "seenLight", "[I", true)
def tyX1 : Nat → FieldType := fun k => match k with
  | 0 => .int
  | 1 => .int
  | 2 => .int
  | 3 => .int
  | 4 => .array .int
  | 5 => .array .int
  | 6 => .array .int
  | 7 => .array .int
  | _ => .array .int
abbrev wsX10 : List Cond := u_ws RX1 TX1 9
theorem nmX1 : ∀ a, a < 9 → ∀ b, b < 9 → a ≠ b → (TX1 a).2.1 ≠ (TX1 b).2.1 := by decide +kernel
theorem tyX1_ok : ∀ k, k < 9 → parseFieldDescriptor (TX1 k).2.2.1 = some (tyX1 k) := by decide +kernel
abbrev cX1_init : ByteArray := prog_3_method_1_code
def yX1_init : MethodName := ⟨RX1, "<init>", "()V"⟩
abbrev cX1_restart : ByteArray := prog_3_method_2_code
def yX1_restart : MethodName := ⟨RX1, "restart", "()V"⟩
abbrev cX1_copyFrom : ByteArray := prog_3_method_3_code
def yX1_copyFrom : MethodName := ⟨RX1, "copyFrom", "(LDarkLeavers$Now;)V"⟩
abbrev cX1_depart : ByteArray := prog_3_method_4_code
def yX1_depart : MethodName := ⟨RX1, "depart", "(II)V"⟩
abbrev cX1_takeBack : ByteArray := prog_3_method_5_code
def yX1_takeBack : MethodName := ⟨RX1, "takeBack", "()V"⟩
abbrev cX1_placeOf : ByteArray := prog_3_method_6_code
def yX1_placeOf : MethodName := ⟨RX1, "placeOf", "(I)I"⟩
abbrev cX1_noteSeen : ByteArray := prog_3_method_7_code
def yX1_noteSeen : MethodName := ⟨RX1, "noteSeen", "(III)V"⟩
abbrev cX1_sawLaterThan : ByteArray := prog_3_method_8_code
def yX1_sawLaterThan : MethodName := ⟨RX1, "sawLaterThan", "(I)Z"⟩
abbrev cX1_agrees : ByteArray := prog_3_method_9_code
def yX1_agrees : MethodName := ⟨RX1, "agrees", "(II)Z"⟩
def RX2 : String := "DarkLeavers$Outlook"
def TX2 : u_T := fun k => match k with
  | 0 => ("DarkLeavers$Outlook", "hall", "LDarkLeavers$Hall;", false)
  | 1 => ("DarkLeavers$Outlook", "longest", "[I", true)
  | 2 => ("DarkLeavers$Outlook", "ways", "[I", true)
  | 3 => ("DarkLeavers$Outlook", "griefs", "[I", true)
  | 4 => ("DarkLeavers$Outlook", "wins", "[I", true)
  | 5 => ("DarkLeavers$Outlook", "tablesKnown", "Z", false)
  | 6 => ("DarkLeavers$Outlook", "chosenPerson", "I", false)
  | _ => ("DarkLeavers$Outlook", "chosenLamp", "I", false)
def tyX2 : Nat → FieldType := fun k => match k with
  | 0 => .object "DarkLeavers$Hall"
  | 1 => .array .int
  | 2 => .array .int
  | 3 => .array .int
  | 4 => .array .int
  | 5 => .boolean
  | 6 => .int
  | _ => .int
abbrev wsX20 : List Cond := u_ws RX2 TX2 8
theorem nmX2 : ∀ a, a < 8 → ∀ b, b < 8 → a ≠ b → (TX2 a).2.1 ≠ (TX2 b).2.1 := by decide +kernel
theorem tyX2_ok : ∀ k, k < 8 → parseFieldDescriptor (TX2 k).2.2.1 = some (tyX2 k) := by decide +kernel
abbrev cX2_init : ByteArray := prog_4_method_1_code
def yX2_init : MethodName := ⟨RX2, "<init>", "(LDarkLeavers$Hall;)V"⟩
abbrev cX2_lookAt : ByteArray := prog_4_method_2_code
def yX2_lookAt : MethodName := ⟨RX2, "lookAt", "(LDarkLeavers$Hall;)V"⟩
abbrev cX2_mostOf : ByteArray := prog_4_method_3_code
def yX2_mostOf : MethodName := ⟨RX2, "mostOf", "(II)I"⟩
abbrev cX2_mostWithOneMore : ByteArray := prog_4_method_4_code
def yX2_mostWithOneMore : MethodName := ⟨RX2, "mostWithOneMore", "(II)I"⟩
abbrev cX2_fillLongest : ByteArray := prog_4_method_5_code
def yX2_fillLongest : MethodName := ⟨RX2, "fillLongest", "(II)V"⟩
abbrev cX2_barOf : ByteArray := prog_4_method_6_code
def yX2_barOf : MethodName := ⟨RX2, "barOf", "(II)I"⟩
abbrev cX2_follow : ByteArray := prog_4_method_7_code
def yX2_follow : MethodName := ⟨RX2, "follow", "(III)V"⟩
abbrev cX2_choose : ByteArray := prog_4_method_8_code
def yX2_choose : MethodName := ⟨RX2, "choose", "(III)V"⟩
abbrev cX2_countRows : ByteArray := prog_4_method_9_code
def yX2_countRows : MethodName := ⟨RX2, "countRows", "(IIIILDarkLeavers$Now;)I"⟩
abbrev cX2_waysFrom : ByteArray := prog_4_method_10_code
def yX2_waysFrom : MethodName := ⟨RX2, "waysFrom", "(IIIII)I"⟩
abbrev cX2_griefOf : ByteArray := prog_4_method_11_code
def yX2_griefOf : MethodName := ⟨RX2, "griefOf", "(II)I"⟩
abbrev cX2_winnerOf : ByteArray := prog_4_method_12_code
def yX2_winnerOf : MethodName := ⟨RX2, "winnerOf", "(II)I"⟩
abbrev cX2_fillTables : ByteArray := prog_4_method_13_code
def yX2_fillTables : MethodName := ⟨RX2, "fillTables", "()V"⟩
abbrev cX2_leastGrief : ByteArray := prog_4_method_14_code
def yX2_leastGrief : MethodName := ⟨RX2, "leastGrief", "(II)I"⟩
abbrev cX2_leastGriefBehind : ByteArray := prog_4_method_15_code
def yX2_leastGriefBehind : MethodName := ⟨RX2, "leastGriefBehind", "(II)I"⟩
abbrev cX2_sidesThatWin : ByteArray := prog_4_method_16_code
def yX2_sidesThatWin : MethodName := ⟨RX2, "sidesThatWin", "(II)I"⟩
abbrev cX2_canBeat : ByteArray := prog_4_method_17_code
def yX2_canBeat : MethodName := ⟨RX2, "canBeat", "(III)Z"⟩
abbrev cX2_placeIn : ByteArray := prog_4_method_18_code
def yX2_placeIn : MethodName := ⟨RX2, "placeIn", "(II)I"⟩
def RX3 : String := "DarkLeavers$Text"
def TX3 : u_T := fun k => match k with
  | 0 => ("DarkLeavers$Text", "bytes", "[I", true)
  | 1 => ("DarkLeavers$Text", "length", "I", false)
  | 2 => ("DarkLeavers$Text", "next", "I", false)
  | 3 => ("DarkLeavers$Text", "start", "I", false)
  | 4 => ("DarkLeavers$Text", "kind", "I", false)
  | 5 => ("DarkLeavers$Text", "value", "I", false)
  | 6 => ("DarkLeavers$Text", "item", "I", false)
  | 7 => ("DarkLeavers$Text", "numbersTold", "I", false)
  | 8 => ("DarkLeavers$Text", "items", "I", false)
  | 9 => ("DarkLeavers$Text", "numbers", "[I", true)
  | _ => ("DarkLeavers$Text", "lawTold", "Z", false)
def tyX3 : Nat → FieldType := fun k => match k with
  | 0 => .array .int
  | 1 => .int
  | 2 => .int
  | 3 => .int
  | 4 => .int
  | 5 => .int
  | 6 => .int
  | 7 => .int
  | 8 => .int
  | 9 => .array .int
  | _ => .boolean
abbrev wsX30 : List Cond := u_ws RX3 TX3 11
theorem nmX3 : ∀ a, a < 11 → ∀ b, b < 11 → a ≠ b → (TX3 a).2.1 ≠ (TX3 b).2.1 := by decide +kernel
theorem tyX3_ok : ∀ k, k < 11 → parseFieldDescriptor (TX3 k).2.2.1 = some (tyX3 k) := by decide +kernel
abbrev cX3_init : ByteArray := prog_5_method_1_code
def yX3_init : MethodName := ⟨RX3, "<init>", "()V"⟩
abbrev cX3_add : ByteArray := prog_5_method_2_code
def yX3_add : MethodName := ⟨RX3, "add", "(I)V"⟩
abbrev cX3_readInto : ByteArray := prog_5_method_3_code
def yX3_readInto : MethodName := ⟨RX3, "readInto", "(LDarkLeavers$Hall;)I"⟩
abbrev cX3_accept : ByteArray := prog_5_method_4_code
def yX3_accept : MethodName := ⟨RX3, "accept", "(LDarkLeavers$Hall;)Z"⟩
abbrev cX3_beginItem : ByteArray := prog_5_method_5_code
def yX3_beginItem : MethodName := ⟨RX3, "beginItem", "(LDarkLeavers$Hall;)Z"⟩
abbrev cX3_numbersOf : ByteArray := prog_5_method_6_code
def yX3_numbersOf : MethodName := ⟨RX3, "numbersOf", "(I)I"⟩
abbrev cX3_acceptNumber : ByteArray := prog_5_method_7_code
def yX3_acceptNumber : MethodName := ⟨RX3, "acceptNumber", "(LDarkLeavers$Hall;)Z"⟩
abbrev cX3_greatest : ByteArray := prog_5_method_8_code
def yX3_greatest : MethodName := ⟨RX3, "greatest", "(LDarkLeavers$Hall;)I"⟩
abbrev cX3_cellTold : ByteArray := prog_5_method_9_code
def yX3_cellTold : MethodName := ⟨RX3, "cellTold", "(LDarkLeavers$Hall;)I"⟩
abbrev cX3_endItem : ByteArray := prog_5_method_10_code
def yX3_endItem : MethodName := ⟨RX3, "endItem", "(LDarkLeavers$Hall;)V"⟩
abbrev cX3_readToken : ByteArray := prog_5_method_11_code
def yX3_readToken : MethodName := ⟨RX3, "readToken", "()V"⟩
abbrev cX3_takeWord : ByteArray := prog_5_method_12_code
def yX3_takeWord : MethodName := ⟨RX3, "takeWord", "()V"⟩
abbrev cX3_wordIs : ByteArray := prog_5_method_13_code
def yX3_wordIs : MethodName := ⟨RX3, "wordIs", "(Ljava/lang/String;)Z"⟩
abbrev cX3_takeNumber : ByteArray := prog_5_method_14_code
def yX3_takeNumber : MethodName := ⟨RX3, "takeNumber", "()V"⟩
abbrev cX3_isLetter : ByteArray := prog_5_method_15_code
def yX3_isLetter : MethodName := ⟨RX3, "isLetter", "(I)Z"⟩
abbrev cX3_isDigit : ByteArray := prog_5_method_16_code
def yX3_isDigit : MethodName := ⟨RX3, "isDigit", "(I)Z"⟩
def RX4 : String := "DarkLeavers"
def TX4 : u_T := fun k => match k with
  | 0 => ("DarkLeavers", "text", "LDarkLeavers$Text;", true)
  | 1 => ("DarkLeavers", "now", "LDarkLeavers$Now;", true)
  | 2 => ("DarkLeavers", "imageZero", "LDarkLeavers$Now;", true)
  | 3 => ("DarkLeavers", "imageOne", "LDarkLeavers$Now;", true)
  | 4 => ("DarkLeavers", "kept", "[Z", true)
  | 5 => ("DarkLeavers", "told", "LDarkLeavers$Hall;", false)
  | 6 => ("DarkLeavers", "draft", "LDarkLeavers$Hall;", false)
  | 7 => ("DarkLeavers", "outlook", "LDarkLeavers$Outlook;", true)
  | _ => ("DarkLeavers", "traced", "J", false)
def tyX4 : Nat → FieldType := fun k => match k with
  | 0 => .object "DarkLeavers$Text"
  | 1 => .object "DarkLeavers$Now"
  | 2 => .object "DarkLeavers$Now"
  | 3 => .object "DarkLeavers$Now"
  | 4 => .array .boolean
  | 5 => .object "DarkLeavers$Hall"
  | 6 => .object "DarkLeavers$Hall"
  | 7 => .object "DarkLeavers$Outlook"
  | _ => .long
abbrev wsX40 : List Cond := u_ws RX4 TX4 9
theorem nmX4 : ∀ a, a < 9 → ∀ b, b < 9 → a ≠ b → (TX4 a).2.1 ≠ (TX4 b).2.1 := by decide +kernel
theorem tyX4_ok : ∀ k, k < 9 → parseFieldDescriptor (TX4 k).2.2.1 = some (tyX4 k) := by decide +kernel
abbrev cX4_init : ByteArray := prog_1_method_1_code
def yX4_init : MethodName := ⟨RX4, "<init>", "()V"⟩
abbrev cX4_type : ByteArray := prog_1_method_2_code
def yX4_type : MethodName := ⟨RX4, "type", "(JI)I"⟩
abbrev cX4_clear : ByteArray := prog_1_method_3_code
def yX4_clear : MethodName := ⟨RX4, "clear", "()I"⟩
abbrev cX4_hall : ByteArray := prog_1_method_4_code
def yX4_hall : MethodName := ⟨RX4, "hall", "()I"⟩
abbrev cX4_beginAnew : ByteArray := prog_1_method_5_code
def yX4_beginAnew : MethodName := ⟨RX4, "beginAnew", "()V"⟩
abbrev cX4_cell : ByteArray := prog_1_method_6_code
def yX4_cell : MethodName := ⟨RX4, "cell", "(II)I"⟩
abbrev cX4_lamp : ByteArray := prog_1_method_7_code
def yX4_lamp : MethodName := ⟨RX4, "lamp", "(II)I"⟩
abbrev cX4_person : ByteArray := prog_1_method_8_code
def yX4_person : MethodName := ⟨RX4, "person", "(II)I"⟩
abbrev cX4_can : ByteArray := prog_1_method_9_code
def yX4_can : MethodName := ⟨RX4, "can", "(I)I"⟩
abbrev cX4_leaves : ByteArray := prog_1_method_10_code
def yX4_leaves : MethodName := ⟨RX4, "leaves", "(II)I"⟩
abbrev cX4_undo : ByteArray := prog_1_method_11_code
def yX4_undo : MethodName := ⟨RX4, "undo", "()I"⟩
abbrev cX4_most : ByteArray := prog_1_method_12_code
def yX4_most : MethodName := ⟨RX4, "most", "()I"⟩
abbrev cX4_order : ByteArray := prog_1_method_13_code
def yX4_order : MethodName := ⟨RX4, "order", "(II)I"⟩
abbrev cX4_rows : ByteArray := prog_1_method_14_code
def yX4_rows : MethodName := ⟨RX4, "rows", "()I"⟩
abbrev cX4_bar : ByteArray := prog_1_method_15_code
def yX4_bar : MethodName := ⟨RX4, "bar", "()I"⟩
abbrev cX4_grief : ByteArray := prog_1_method_16_code
def yX4_grief : MethodName := ⟨RX4, "grief", "()I"⟩
abbrev cX4_game : ByteArray := prog_1_method_17_code
def yX4_game : MethodName := ⟨RX4, "game", "()I"⟩
abbrev cX4_worth : ByteArray := prog_1_method_18_code
def yX4_worth : MethodName := ⟨RX4, "worth", "(II)I"⟩
abbrev cX4_saw : ByteArray := prog_1_method_19_code
def yX4_saw : MethodName := ⟨RX4, "saw", "(III)I"⟩
abbrev cX4_forget : ByteArray := prog_1_method_20_code
def yX4_forget : MethodName := ⟨RX4, "forget", "()I"⟩
abbrev cX4_fits : ByteArray := prog_1_method_21_code
def yX4_fits : MethodName := ⟨RX4, "fits", "()I"⟩
abbrev cX4_who : ByteArray := prog_1_method_22_code
def yX4_who : MethodName := ⟨RX4, "who", "(I)I"⟩
abbrev cX4_mark : ByteArray := prog_1_method_23_code
def yX4_mark : MethodName := ⟨RX4, "mark", "(II)I"⟩
abbrev cX4_markOfGuest : ByteArray := prog_1_method_24_code
def yX4_markOfGuest : MethodName := ⟨RX4, "markOfGuest", "(I)I"⟩
abbrev cX4_markOfAunt : ByteArray := prog_1_method_25_code
def yX4_markOfAunt : MethodName := ⟨RX4, "markOfAunt", "(I)I"⟩
abbrev cX4_markOfWaiter : ByteArray := prog_1_method_26_code
def yX4_markOfWaiter : MethodName := ⟨RX4, "markOfWaiter", "(I)I"⟩
abbrev cX4_markOfGreatAunt : ByteArray := prog_1_method_27_code
def yX4_markOfGreatAunt : MethodName := ⟨RX4, "markOfGreatAunt", "(I)I"⟩
abbrev cX4_markOfPorter : ByteArray := prog_1_method_28_code
def yX4_markOfPorter : MethodName := ⟨RX4, "markOfPorter", "(I)I"⟩
abbrev cX4_markOfFiddler : ByteArray := prog_1_method_29_code
def yX4_markOfFiddler : MethodName := ⟨RX4, "markOfFiddler", "(I)I"⟩
abbrev cX4_keep : ByteArray := prog_1_method_30_code
def yX4_keep : MethodName := ⟨RX4, "keep", "(I)I"⟩
abbrev cX4_back : ByteArray := prog_1_method_31_code
def yX4_back : MethodName := ⟨RX4, "back", "(I)I"⟩
abbrev cX4_imageOf : ByteArray := prog_1_method_32_code
def yX4_imageOf : MethodName := ⟨RX4, "imageOf", "(I)LDarkLeavers$Now;"⟩
abbrev cX4_count : ByteArray := prog_1_method_33_code
def yX4_count : MethodName := ⟨RX4, "count", "(I)I"⟩
abbrev cX4_trace : ByteArray := prog_1_method_34_code
def yX4_trace : MethodName := ⟨RX4, "trace", "()J"⟩
abbrev cX4_isCell : ByteArray := prog_1_method_35_code
def yX4_isCell : MethodName := ⟨RX4, "isCell", "(I)Z"⟩
abbrev cX4_isOpenCell : ByteArray := prog_1_method_36_code
def yX4_isOpenCell : MethodName := ⟨RX4, "isOpenCell", "(I)Z"⟩
abbrev cX4_isLamp : ByteArray := prog_1_method_37_code
def yX4_isLamp : MethodName := ⟨RX4, "isLamp", "(I)Z"⟩
abbrev cX4_isPerson : ByteArray := prog_1_method_38_code
def yX4_isPerson : MethodName := ⟨RX4, "isPerson", "(I)Z"⟩
abbrev cX4_hasLeft : ByteArray := prog_1_method_39_code
def yX4_hasLeft : MethodName := ⟨RX4, "hasLeft", "(I)Z"⟩
abbrev cX4_litNow : ByteArray := prog_1_method_40_code
def yX4_litNow : MethodName := ⟨RX4, "litNow", "()I"⟩
abbrev cX4_thereNow : ByteArray := prog_1_method_41_code
def yX4_thereNow : MethodName := ⟨RX4, "thereNow", "()I"⟩
abbrev cX4_bitOf : ByteArray := prog_1_method_42_code
def yX4_bitOf : MethodName := ⟨RX4, "bitOf", "(II)I"⟩
def RX5 : String := "DarkLeaversModel"
def TX5 : u_T := fun k => match k with
  | 0 => ("DarkLeaversModel", "trace", "J", false)
  | 1 => ("DarkLeaversModel", "text", "[I", true)
  | 2 => ("DarkLeaversModel", "typed", "I", false)
  | 3 => ("DarkLeaversModel", "told", "[I", true)
  | 4 => ("DarkLeaversModel", "draft", "[I", true)
  | 5 => ("DarkLeaversModel", "s", "[I", true)
  | 6 => ("DarkLeaversModel", "images", "[I", true)
  | 7 => ("DarkLeaversModel", "kept", "[Z", true)
  | 8 => ("DarkLeaversModel", "at", "I", false)
  | 9 => ("DarkLeaversModel", "sort", "I", false)
  | 10 => ("DarkLeaversModel", "start", "I", false)
  | 11 => ("DarkLeaversModel", "size", "I", false)
  | 12 => ("DarkLeaversModel", "light", "[I", true)
  | 13 => ("DarkLeaversModel", "may", "[I", true)
  | 14 => ("DarkLeaversModel", "shine", "[I", true)
  | 15 => ("DarkLeaversModel", "worth", "[I", true)
  | _ => ("DarkLeaversModel", "least", "[I", true)
def tyX5 : Nat → FieldType := fun k => match k with
  | 0 => .long
  | 1 => .array .int
  | 2 => .int
  | 3 => .array .int
  | 4 => .array .int
  | 5 => .array .int
  | 6 => .array .int
  | 7 => .array .boolean
  | 8 => .int
  | 9 => .int
  | 10 => .int
  | 11 => .int
  | 12 => .array .int
  | 13 => .array .int
  | 14 => .array .int
  | 15 => .array .int
  | _ => .array .int
abbrev wsX50 : List Cond := u_ws RX5 TX5 17
theorem nmX5 : ∀ a, a < 17 → ∀ b, b < 17 → a ≠ b → (TX5 a).2.1 ≠ (TX5 b).2.1 := by decide +kernel
theorem tyX5_ok : ∀ k, k < 17 → parseFieldDescriptor (TX5 k).2.2.1 = some (tyX5 k) := by decide +kernel
abbrev cX5_init : ByteArray := prog_7_method_1_code
def yX5_init : MethodName := ⟨RX5, "<init>", "()V"⟩
abbrev cX5_in : ByteArray := prog_7_method_3_code
def yX5_in : MethodName := ⟨RX5, "in", "(III)Z"⟩
abbrev cX5_cells : ByteArray := prog_7_method_4_code
def yX5_cells : MethodName := ⟨RX5, "cells", "()I"⟩
abbrev cX5_isCell : ByteArray := prog_7_method_5_code
def yX5_isCell : MethodName := ⟨RX5, "isCell", "(I)Z"⟩
abbrev cX5_isLamp : ByteArray := prog_7_method_6_code
def yX5_isLamp : MethodName := ⟨RX5, "isLamp", "(I)Z"⟩
abbrev cX5_isPerson : ByteArray := prog_7_method_7_code
def yX5_isPerson : MethodName := ⟨RX5, "isPerson", "(I)Z"⟩
abbrev cX5_type : ByteArray := prog_7_method_8_code
def yX5_type : MethodName := ⟨RX5, "type", "(JI)I"⟩
abbrev cX5_clear : ByteArray := prog_7_method_9_code
def yX5_clear : MethodName := ⟨RX5, "clear", "()I"⟩
abbrev cX5_byteAt : ByteArray := prog_7_method_10_code
def yX5_byteAt : MethodName := ⟨RX5, "byteAt", "(I)I"⟩
abbrev cX5_sortOf : ByteArray := prog_7_method_11_code
def yX5_sortOf : MethodName := ⟨RX5, "sortOf", "(I)I"⟩
abbrev cX5_token : ByteArray := prog_7_method_12_code
def yX5_token : MethodName := ⟨RX5, "token", "()V"⟩
abbrev cX5_verb : ByteArray := prog_7_method_13_code
def yX5_verb : MethodName := ⟨RX5, "verb", "()I"⟩
abbrev cX5_number : ByteArray := prog_7_method_14_code
def yX5_number : MethodName := ⟨RX5, "number", "(II)I"⟩
abbrev cX5_place : ByteArray := prog_7_method_15_code
def yX5_place : MethodName := ⟨RX5, "place", "(Z)I"⟩
abbrev cX5_readsHall : ByteArray := prog_7_method_16_code
def yX5_readsHall : MethodName := ⟨RX5, "readsHall", "()Z"⟩
abbrev cX5_readsCell : ByteArray := prog_7_method_17_code
def yX5_readsCell : MethodName := ⟨RX5, "readsCell", "(I)Z"⟩
abbrev cX5_readsLamp : ByteArray := prog_7_method_18_code
def yX5_readsLamp : MethodName := ⟨RX5, "readsLamp", "()Z"⟩
abbrev cX5_readsPerson : ByteArray := prog_7_method_19_code
def yX5_readsPerson : MethodName := ⟨RX5, "readsPerson", "()Z"⟩
abbrev cX5_readsItem : ByteArray := prog_7_method_20_code
def yX5_readsItem : MethodName := ⟨RX5, "readsItem", "(I)Z"⟩
abbrev cX5_reads : ByteArray := prog_7_method_21_code
def yX5_reads : MethodName := ⟨RX5, "reads", "()Z"⟩
abbrev cX5_hall : ByteArray := prog_7_method_22_code
def yX5_hall : MethodName := ⟨RX5, "hall", "()I"⟩
abbrev cX5_isWall : ByteArray := prog_7_method_23_code
def yX5_isWall : MethodName := ⟨RX5, "isWall", "(I)Z"⟩
abbrev cX5_wider : ByteArray := prog_7_method_24_code
def yX5_wider : MethodName := ⟨RX5, "wider", "(II)I"⟩
abbrev cX5_shines : ByteArray := prog_7_method_25_code
def yX5_shines : MethodName := ⟨RX5, "shines", "(II)I"⟩
abbrev cX5_toDoors : ByteArray := prog_7_method_26_code
def yX5_toDoors : MethodName := ⟨RX5, "toDoors", "(I)I"⟩
abbrev cX5_many : ByteArray := prog_7_method_27_code
def yX5_many : MethodName := ⟨RX5, "many", "(Z)I"⟩
abbrev cX5_litOf : ByteArray := prog_7_method_28_code
def yX5_litOf : MethodName := ⟨RX5, "litOf", "(I)I"⟩
abbrev cX5_lights : ByteArray := prog_7_method_29_code
def yX5_lights : MethodName := ⟨RX5, "lights", "(I)V"⟩
abbrev cX5_gone : ByteArray := prog_7_method_30_code
def yX5_gone : MethodName := ⟨RX5, "gone", "()I"⟩
abbrev cX5_all : ByteArray := prog_7_method_31_code
def yX5_all : MethodName := ⟨RX5, "all", "()I"⟩
abbrev cX5_allLit : ByteArray := prog_7_method_32_code
def yX5_allLit : MethodName := ⟨RX5, "allLit", "()I"⟩
abbrev cX5_lit : ByteArray := prog_7_method_33_code
def yX5_lit : MethodName := ⟨RX5, "lit", "()I"⟩
abbrev cX5_ones : ByteArray := prog_7_method_34_code
def yX5_ones : MethodName := ⟨RX5, "ones", "(I)I"⟩
abbrev cX5_cell : ByteArray := prog_7_method_35_code
def yX5_cell : MethodName := ⟨RX5, "cell", "(II)I"⟩
abbrev cX5_lamp : ByteArray := prog_7_method_36_code
def yX5_lamp : MethodName := ⟨RX5, "lamp", "(II)I"⟩
abbrev cX5_person : ByteArray := prog_7_method_37_code
def yX5_person : MethodName := ⟨RX5, "person", "(II)I"⟩
abbrev cX5_can : ByteArray := prog_7_method_38_code
def yX5_can : MethodName := ⟨RX5, "can", "(I)I"⟩
abbrev cX5_leaves : ByteArray := prog_7_method_39_code
def yX5_leaves : MethodName := ⟨RX5, "leaves", "(II)I"⟩
abbrev cX5_undo : ByteArray := prog_7_method_40_code
def yX5_undo : MethodName := ⟨RX5, "undo", "()I"⟩
abbrev cX5_state : ByteArray := prog_7_method_41_code
def yX5_state : MethodName := ⟨RX5, "state", "(II)I"⟩
abbrev cX5_then : ByteArray := prog_7_method_42_code
def yX5_then : MethodName := ⟨RX5, "then", "(IIII)I"⟩
abbrev cX5_mosts : ByteArray := prog_7_method_43_code
def yX5_mosts : MethodName := ⟨RX5, "mosts", "(I)V"⟩
abbrev cX5_most : ByteArray := prog_7_method_44_code
def yX5_most : MethodName := ⟨RX5, "most", "()I"⟩
abbrev cX5_order : ByteArray := prog_7_method_45_code
def yX5_order : MethodName := ⟨RX5, "order", "(II)I"⟩
abbrev cX5_alls : ByteArray := prog_7_method_46_code
def yX5_alls : MethodName := ⟨RX5, "alls", "()V"⟩
abbrev cX5_rows : ByteArray := prog_7_method_47_code
def yX5_rows : MethodName := ⟨RX5, "rows", "()I"⟩
abbrev cX5_bar : ByteArray := prog_7_method_48_code
def yX5_bar : MethodName := ⟨RX5, "bar", "()I"⟩
abbrev cX5_grief : ByteArray := prog_7_method_49_code
def yX5_grief : MethodName := ⟨RX5, "grief", "()I"⟩
abbrev cX5_game : ByteArray := prog_7_method_50_code
def yX5_game : MethodName := ⟨RX5, "game", "()I"⟩
abbrev cX5_worth : ByteArray := prog_7_method_51_code
def yX5_worth : MethodName := ⟨RX5, "worth", "(II)I"⟩
abbrev cX5_saw : ByteArray := prog_7_method_52_code
def yX5_saw : MethodName := ⟨RX5, "saw", "(III)I"⟩
abbrev cX5_forget : ByteArray := prog_7_method_53_code
def yX5_forget : MethodName := ⟨RX5, "forget", "()I"⟩
abbrev cX5_fitsSeen : ByteArray := prog_7_method_54_code
def yX5_fitsSeen : MethodName := ⟨RX5, "fitsSeen", "(II)Z"⟩
abbrev cX5_histories : ByteArray := prog_7_method_55_code
def yX5_histories : MethodName := ⟨RX5, "histories", "()V"⟩
abbrev cX5_fits : ByteArray := prog_7_method_56_code
def yX5_fits : MethodName := ⟨RX5, "fits", "()I"⟩
abbrev cX5_who : ByteArray := prog_7_method_57_code
def yX5_who : MethodName := ⟨RX5, "who", "(I)I"⟩
abbrev cX5_mark : ByteArray := prog_7_method_58_code
def yX5_mark : MethodName := ⟨RX5, "mark", "(II)I"⟩
abbrev cX5_keep : ByteArray := prog_7_method_59_code
def yX5_keep : MethodName := ⟨RX5, "keep", "(I)I"⟩
abbrev cX5_back : ByteArray := prog_7_method_60_code
def yX5_back : MethodName := ⟨RX5, "back", "(I)I"⟩
abbrev cX5_count : ByteArray := prog_7_method_61_code
def yX5_count : MethodName := ⟨RX5, "count", "(I)I"⟩
abbrev cX5_trace : ByteArray := prog_7_method_62_code
def yX5_trace : MethodName := ⟨RX5, "trace", "()J"⟩
def RJ6 : String := "java/lang/Integer"
def TJ6 : u_T := fun k => match k with
  | _ => ("", "", "", false)
def tyJ6 : Nat → FieldType := fun k => match k with
  | _ => .int
abbrev wsJ60 : List Cond := u_ws RJ6 TJ6 0
theorem nmJ6 : ∀ a, a < 0 → ∀ b, b < 0 → a ≠ b → (TJ6 a).2.1 ≠ (TJ6 b).2.1 := by decide +kernel
theorem tyJ6_ok : ∀ k, k < 0 → parseFieldDescriptor (TJ6 k).2.2.1 = some (tyJ6 k) := by decide +kernel
abbrev cJ6_bitCount_0f7a4 : ByteArray := prog_8_method_49_code
def yJ6_bitCount_0f7a4 : MethodName := ⟨RJ6, "bitCount", "(I)I"⟩
def RJ9 : String := "java/lang/Math"
def TJ9 : u_T := fun k => match k with
  | _ => ("", "", "", false)
def tyJ9 : Nat → FieldType := fun k => match k with
  | _ => .int
abbrev wsJ90 : List Cond := u_ws RJ9 TJ9 0
theorem nmJ9 : ∀ a, a < 0 → ∀ b, b < 0 → a ≠ b → (TJ9 a).2.1 ≠ (TJ9 b).2.1 := by decide +kernel
theorem tyJ9_ok : ∀ k, k < 0 → parseFieldDescriptor (TJ9 k).2.2.1 = some (tyJ9 k) := by decide +kernel
abbrev cJ9_abs_0f7a4 : ByteArray := prog_9_method_59_code
def yJ9_abs_0f7a4 : MethodName := ⟨RJ9, "abs", "(I)I"⟩
abbrev cJ9_max_7cf53 : ByteArray := prog_9_method_65_code
def yJ9_max_7cf53 : MethodName := ⟨RJ9, "max", "(II)I"⟩
abbrev cJ9_min_7cf53 : ByteArray := prog_9_method_69_code
def yJ9_min_7cf53 : MethodName := ⟨RJ9, "min", "(II)I"⟩
def RJ0 : String := "java/lang/String"
def TJ0 : u_T := fun k => match k with
  | _ => ("", "", "", false)
def tyJ0 : Nat → FieldType := fun k => match k with
  | _ => .int
abbrev wsJ00 : List Cond := u_ws RJ0 TJ0 0
theorem nmJ0 : ∀ a, a < 0 → ∀ b, b < 0 → a ≠ b → (TJ0 a).2.1 ≠ (TJ0 b).2.1 := by decide +kernel
theorem tyJ0_ok : ∀ k, k < 0 → parseFieldDescriptor (TJ0 k).2.2.1 = some (tyJ0 k) := by decide +kernel
abbrev cJ0_length_8abf5 : ByteArray := prog_10_method_54_code
def yJ0_length_8abf5 : MethodName := ⟨RJ0, "length", "()I"⟩
abbrev cJ0_charAt_5068e : ByteArray := prog_10_method_56_code
def yJ0_charAt_5068e : MethodName := ⟨RJ0, "charAt", "(I)C"⟩
abbrev cJ0_coder_7d493 : ByteArray := prog_10_method_152_code
def yJ0_coder_7d493 : MethodName := ⟨RJ0, "coder", "()B"⟩
abbrev cJ0_isLatin1_aae02 : ByteArray := prog_10_method_154_code
def yJ0_isLatin1_aae02 : MethodName := ⟨RJ0, "isLatin1", "()Z"⟩
abbrev cJ0_checkIndex_df160 : ByteArray := prog_10_method_155_code
def yJ0_checkIndex_df160 : MethodName := ⟨RJ0, "checkIndex", "(II)V"⟩
def RJ1 : String := "java/lang/StringLatin1"
def TJ1 : u_T := fun k => match k with
  | _ => ("", "", "", false)
def tyJ1 : Nat → FieldType := fun k => match k with
  | _ => .int
abbrev wsJ10 : List Cond := u_ws RJ1 TJ1 0
theorem nmJ1 : ∀ a, a < 0 → ∀ b, b < 0 → a ≠ b → (TJ1 a).2.1 ≠ (TJ1 b).2.1 := by decide +kernel
theorem tyJ1_ok : ∀ k, k < 0 → parseFieldDescriptor (TJ1 k).2.2.1 = some (tyJ1 k) := by decide +kernel
abbrev cJ1_charAt_3b067 : ByteArray := prog_11_method_2_code
def yJ1_charAt_3b067 : MethodName := ⟨RJ1, "charAt", "([BI)C"⟩
def RJ2 : String := "java/lang/StringUTF16"
def TJ2 : u_T := fun k => match k with
  | _ => ("", "", "", false)
def tyJ2 : Nat → FieldType := fun k => match k with
  | _ => .int
abbrev wsJ20 : List Cond := u_ws RJ2 TJ2 0
theorem nmJ2 : ∀ a, a < 0 → ∀ b, b < 0 → a ≠ b → (TJ2 a).2.1 ≠ (TJ2 b).2.1 := by decide +kernel
theorem tyJ2_ok : ∀ k, k < 0 → parseFieldDescriptor (TJ2 k).2.2.1 = some (tyJ2 k) := by decide +kernel
abbrev cJ2_getChar_3b067 : ByteArray := prog_12_method_5_code
def yJ2_getChar_3b067 : MethodName := ⟨RJ2, "getChar", "([BI)C"⟩
abbrev cJ2_length_9d52b : ByteArray := prog_12_method_6_code
def yJ2_length_9d52b : MethodName := ⟨RJ2, "length", "([B)I"⟩
abbrev cJ2_charAt_3b067 : ByteArray := prog_12_method_83_code
def yJ2_charAt_3b067 : MethodName := ⟨RJ2, "charAt", "([BI)C"⟩
abbrev cJ2_checkIndex_2214a : ByteArray := prog_12_method_91_code
def yJ2_checkIndex_2214a : MethodName := ⟨RJ2, "checkIndex", "(I[B)V"⟩
def RJ10 : String := "java/lang/System"
def TJ10 : u_T := fun k => match k with
  | _ => ("", "", "", false)
def tyJ10 : Nat → FieldType := fun k => match k with
  | _ => .int
abbrev wsJ100 : List Cond := u_ws RJ10 TJ10 0
theorem nmJ10 : ∀ a, a < 0 → ∀ b, b < 0 → a ≠ b → (TJ10 a).2.1 ≠ (TJ10 b).2.1 := by decide +kernel
theorem tyJ10_ok : ∀ k, k < 0 → parseFieldDescriptor (TJ10 k).2.2.1 = some (tyJ10 k) := by decide +kernel
def RJ3 : String := "jdk/internal/util/Preconditions"
def TJ3 : u_T := fun k => match k with
  | _ => ("", "", "", false)
def tyJ3 : Nat → FieldType := fun k => match k with
  | _ => .int
abbrev wsJ30 : List Cond := u_ws RJ3 TJ3 0
theorem nmJ3 : ∀ a, a < 0 → ∀ b, b < 0 → a ≠ b → (TJ3 a).2.1 ≠ (TJ3 b).2.1 := by decide +kernel
theorem tyJ3_ok : ∀ k, k < 0 → parseFieldDescriptor (TJ3 k).2.2.1 = some (tyJ3 k) := by decide +kernel
abbrev cJ3_checkIndex_8e157 : ByteArray := prog_14_method_11_code
def yJ3_checkIndex_8e157 : MethodName := ⟨RJ3, "checkIndex", "(IILjava/util/function/BiFunction;)I"⟩
def RL : String := "DarkLeaversLaw"
abbrev cL_law : ByteArray := code
def yL_law : MethodName := ⟨RL, "law", "([I)Z"⟩
abbrev vwCl : List vw_C := [(RX0, TX0, 15), (RX1, TX1, 9), (RX2, TX2, 8), (RX3, TX3, 11), (RX4, TX4, 9), (RX5, TX5, 17)]

section
-- ===== PART A: goes FIRST, ahead of the names: the tables' words, and 'selects' of the private methods out of them =====
/-- a private method of a class that the tables say can be made, by its rows of tables_1 -/
def lw_okq (q : MethodName × Nat) : Prop := (q.1.cls ≠ "java/lang/invoke/MethodHandle" ∧ q.1.cls ≠ "java/lang/invoke/VarHandle") ∧ Cond.instantiable q.1.cls q.2 ∈ tables_1 ∧ Cond.privateMethod q.1 ∈ tables_1 ∧ Cond.instanceMethod q.1 ∈ tables_1
theorem lw_p0 : lw_okq (⟨"DocumentHouse", "putOnTape", "(I)V"⟩, 19) := ⟨⟨by decide +kernel, by decide +kernel⟩, List.mem_of_getElem? (i := 24) (by decide +kernel), List.mem_of_getElem? (i := 564) (by decide +kernel), List.mem_of_getElem? (i := 565) (by decide +kernel)⟩
theorem lw_p1 : lw_okq (⟨"DocumentHouse$Out", "start", "(II)V"⟩, 4) := ⟨⟨by decide +kernel, by decide +kernel⟩, List.mem_of_getElem? (i := 62) (by decide +kernel), List.mem_of_getElem? (i := 572) (by decide +kernel), List.mem_of_getElem? (i := 573) (by decide +kernel)⟩
theorem lw_p2 : lw_okq (⟨"DocumentHouse$Out", "open", "()I"⟩, 4) := ⟨⟨by decide +kernel, by decide +kernel⟩, List.mem_of_getElem? (i := 62) (by decide +kernel), List.mem_of_getElem? (i := 582) (by decide +kernel), List.mem_of_getElem? (i := 583) (by decide +kernel)⟩
theorem lw_p3 : lw_okq (⟨"DocumentHouse$Out", "put4", "(I)V"⟩, 4) := ⟨⟨by decide +kernel, by decide +kernel⟩, List.mem_of_getElem? (i := 62) (by decide +kernel), List.mem_of_getElem? (i := 586) (by decide +kernel), List.mem_of_getElem? (i := 587) (by decide +kernel)⟩
theorem lw_p4 : lw_okq (⟨"DocumentHouse$Reader", "reads", "(I)Z"⟩, 3) := ⟨⟨by decide +kernel, by decide +kernel⟩, List.mem_of_getElem? (i := 86) (by decide +kernel), List.mem_of_getElem? (i := 590) (by decide +kernel), List.mem_of_getElem? (i := 591) (by decide +kernel)⟩
theorem lw_p5 : lw_okq (⟨"DocumentHouse$Reader", "document", "(IIII)I"⟩, 3) := ⟨⟨by decide +kernel, by decide +kernel⟩, List.mem_of_getElem? (i := 86) (by decide +kernel), List.mem_of_getElem? (i := 594) (by decide +kernel), List.mem_of_getElem? (i := 595) (by decide +kernel)⟩
theorem lw_p6 : lw_okq (⟨"DocumentHouse$Reader", "fails", "(II)I"⟩, 3) := ⟨⟨by decide +kernel, by decide +kernel⟩, List.mem_of_getElem? (i := 86) (by decide +kernel), List.mem_of_getElem? (i := 598) (by decide +kernel), List.mem_of_getElem? (i := 599) (by decide +kernel)⟩
theorem lw_p7 : lw_okq (⟨"DocumentHouse$Reader", "element", "(IIIII)I"⟩, 3) := ⟨⟨by decide +kernel, by decide +kernel⟩, List.mem_of_getElem? (i := 86) (by decide +kernel), List.mem_of_getElem? (i := 607) (by decide +kernel), List.mem_of_getElem? (i := 608) (by decide +kernel)⟩
theorem lw_p8 : lw_okq (⟨"DocumentHouse$Reader", "stoodAhead", "(III)Z"⟩, 3) := ⟨⟨by decide +kernel, by decide +kernel⟩, List.mem_of_getElem? (i := 86) (by decide +kernel), List.mem_of_getElem? (i := 624) (by decide +kernel), List.mem_of_getElem? (i := 625) (by decide +kernel)⟩
theorem lw_p9 : lw_okq (⟨"DocumentHouse$Reader", "value", "(IIII)I"⟩, 3) := ⟨⟨by decide +kernel, by decide +kernel⟩, List.mem_of_getElem? (i := 86) (by decide +kernel), List.mem_of_getElem? (i := 638) (by decide +kernel), List.mem_of_getElem? (i := 639) (by decide +kernel)⟩
theorem lw_p10 : lw_okq (⟨"DocumentHouse$Reader", "text", "(II)I"⟩, 3) := ⟨⟨by decide +kernel, by decide +kernel⟩, List.mem_of_getElem? (i := 86) (by decide +kernel), List.mem_of_getElem? (i := 642) (by decide +kernel), List.mem_of_getElem? (i := 643) (by decide +kernel)⟩
theorem lw_p11 : lw_okq (⟨"DocumentHouse", "fail", "(II)V"⟩, 19) := ⟨⟨by decide +kernel, by decide +kernel⟩, List.mem_of_getElem? (i := 24) (by decide +kernel), List.mem_of_getElem? (i := 646) (by decide +kernel), List.mem_of_getElem? (i := 647) (by decide +kernel)⟩
theorem lw_p12 : lw_okq (⟨"DocumentHouse", "wrongInRequest", "()I"⟩, 19) := ⟨⟨by decide +kernel, by decide +kernel⟩, List.mem_of_getElem? (i := 24) (by decide +kernel), List.mem_of_getElem? (i := 650) (by decide +kernel), List.mem_of_getElem? (i := 651) (by decide +kernel)⟩
theorem lw_p13 : lw_okq (⟨"DocumentHouse", "operationOf", "(I)I"⟩, 19) := ⟨⟨by decide +kernel, by decide +kernel⟩, List.mem_of_getElem? (i := 24) (by decide +kernel), List.mem_of_getElem? (i := 657) (by decide +kernel), List.mem_of_getElem? (i := 658) (by decide +kernel)⟩
theorem lw_p14 : lw_okq (⟨"DocumentHouse", "wrongInHead", "()I"⟩, 19) := ⟨⟨by decide +kernel, by decide +kernel⟩, List.mem_of_getElem? (i := 24) (by decide +kernel), List.mem_of_getElem? (i := 725) (by decide +kernel), List.mem_of_getElem? (i := 726) (by decide +kernel)⟩
theorem lw_p15 : lw_okq (⟨"DocumentHouse", "wrongPipeline", "()I"⟩, 19) := ⟨⟨by decide +kernel, by decide +kernel⟩, List.mem_of_getElem? (i := 24) (by decide +kernel), List.mem_of_getElem? (i := 733) (by decide +kernel), List.mem_of_getElem? (i := 734) (by decide +kernel)⟩
def lw_privs_1 : List (MethodName × Nat) := [(⟨"DocumentHouse", "putOnTape", "(I)V"⟩, 19), (⟨"DocumentHouse$Out", "start", "(II)V"⟩, 4), (⟨"DocumentHouse$Out", "open", "()I"⟩, 4), (⟨"DocumentHouse$Out", "put4", "(I)V"⟩, 4), (⟨"DocumentHouse$Reader", "reads", "(I)Z"⟩, 3), (⟨"DocumentHouse$Reader", "document", "(IIII)I"⟩, 3), (⟨"DocumentHouse$Reader", "fails", "(II)I"⟩, 3), (⟨"DocumentHouse$Reader", "element", "(IIIII)I"⟩, 3), (⟨"DocumentHouse$Reader", "stoodAhead", "(III)Z"⟩, 3), (⟨"DocumentHouse$Reader", "value", "(IIII)I"⟩, 3), (⟨"DocumentHouse$Reader", "text", "(II)I"⟩, 3), (⟨"DocumentHouse", "fail", "(II)V"⟩, 19), (⟨"DocumentHouse", "wrongInRequest", "()I"⟩, 19), (⟨"DocumentHouse", "operationOf", "(I)I"⟩, 19), (⟨"DocumentHouse", "wrongInHead", "()I"⟩, 19), (⟨"DocumentHouse", "wrongPipeline", "()I"⟩, 19)]
theorem lw_r1 : ∀ q ∈ lw_privs_1, lw_okq q := List.forall_mem_cons.mpr ⟨lw_p0, List.forall_mem_cons.mpr ⟨lw_p1, List.forall_mem_cons.mpr ⟨lw_p2, List.forall_mem_cons.mpr ⟨lw_p3, List.forall_mem_cons.mpr ⟨lw_p4, List.forall_mem_cons.mpr ⟨lw_p5, List.forall_mem_cons.mpr ⟨lw_p6, List.forall_mem_cons.mpr ⟨lw_p7, List.forall_mem_cons.mpr ⟨lw_p8, List.forall_mem_cons.mpr ⟨lw_p9, List.forall_mem_cons.mpr ⟨lw_p10, List.forall_mem_cons.mpr ⟨lw_p11, List.forall_mem_cons.mpr ⟨lw_p12, List.forall_mem_cons.mpr ⟨lw_p13, List.forall_mem_cons.mpr ⟨lw_p14, List.forall_mem_cons.mpr ⟨lw_p15, fun _ h => absurd h List.not_mem_nil⟩⟩⟩⟩⟩⟩⟩⟩⟩⟩⟩⟩⟩⟩⟩⟩
theorem lw_p16 : lw_okq (⟨"DocumentHouse", "wrongPaths", "()I"⟩, 19) := ⟨⟨by decide +kernel, by decide +kernel⟩, List.mem_of_getElem? (i := 24) (by decide +kernel), List.mem_of_getElem? (i := 739) (by decide +kernel), List.mem_of_getElem? (i := 740) (by decide +kernel)⟩
theorem lw_p17 : lw_okq (⟨"DocumentHouse$Path", "setPlainText", "([BII)Z"⟩, 5) := ⟨⟨by decide +kernel, by decide +kernel⟩, List.mem_of_getElem? (i := 110) (by decide +kernel), List.mem_of_getElem? (i := 743) (by decide +kernel), List.mem_of_getElem? (i := 744) (by decide +kernel)⟩
theorem lw_p18 : lw_okq (⟨"DocumentHouse$Path", "set", "([BII)Z"⟩, 5) := ⟨⟨by decide +kernel, by decide +kernel⟩, List.mem_of_getElem? (i := 110) (by decide +kernel), List.mem_of_getElem? (i := 749) (by decide +kernel), List.mem_of_getElem? (i := 750) (by decide +kernel)⟩
theorem lw_p19 : lw_okq (⟨"DocumentHouse", "isShelf", "(I)Z"⟩, 19) := ⟨⟨by decide +kernel, by decide +kernel⟩, List.mem_of_getElem? (i := 24) (by decide +kernel), List.mem_of_getElem? (i := 771) (by decide +kernel), List.mem_of_getElem? (i := 772) (by decide +kernel)⟩
theorem lw_p20 : lw_okq (⟨"DocumentHouse", "wrongChange", "()I"⟩, 19) := ⟨⟨by decide +kernel, by decide +kernel⟩, List.mem_of_getElem? (i := 24) (by decide +kernel), List.mem_of_getElem? (i := 779) (by decide +kernel), List.mem_of_getElem? (i := 780) (by decide +kernel)⟩
theorem lw_p21 : lw_okq (⟨"DocumentHouse", "wrongDown", "()I"⟩, 19) := ⟨⟨by decide +kernel, by decide +kernel⟩, List.mem_of_getElem? (i := 24) (by decide +kernel), List.mem_of_getElem? (i := 784) (by decide +kernel), List.mem_of_getElem? (i := 785) (by decide +kernel)⟩
theorem lw_p22 : lw_okq (⟨"DocumentHouse", "failAt", "(II)V"⟩, 19) := ⟨⟨by decide +kernel, by decide +kernel⟩, List.mem_of_getElem? (i := 24) (by decide +kernel), List.mem_of_getElem? (i := 793) (by decide +kernel), List.mem_of_getElem? (i := 794) (by decide +kernel)⟩
theorem lw_p23 : lw_okq (⟨"DocumentHouse", "insert", "()V"⟩, 19) := ⟨⟨by decide +kernel, by decide +kernel⟩, List.mem_of_getElem? (i := 24) (by decide +kernel), List.mem_of_getElem? (i := 797) (by decide +kernel), List.mem_of_getElem? (i := 798) (by decide +kernel)⟩
theorem lw_p24 : lw_okq (⟨"DocumentHouse$Index", "fitsAnother", "(I)Z"⟩, 14) := ⟨⟨by decide +kernel, by decide +kernel⟩, List.mem_of_getElem? (i := 323) (by decide +kernel), List.mem_of_getElem? (i := 803) (by decide +kernel), List.mem_of_getElem? (i := 804) (by decide +kernel)⟩
theorem lw_p25 : lw_okq (⟨"DocumentHouse$Index", "entriesOf", "(I)I"⟩, 14) := ⟨⟨by decide +kernel, by decide +kernel⟩, List.mem_of_getElem? (i := 323) (by decide +kernel), List.mem_of_getElem? (i := 807) (by decide +kernel), List.mem_of_getElem? (i := 808) (by decide +kernel)⟩
theorem lw_p26 : lw_okq (⟨"DocumentHouse$Index", "keysOf", "(LDocumentHouse$Path;I[II)I"⟩, 14) := ⟨⟨by decide +kernel, by decide +kernel⟩, List.mem_of_getElem? (i := 323) (by decide +kernel), List.mem_of_getElem? (i := 811) (by decide +kernel), List.mem_of_getElem? (i := 812) (by decide +kernel)⟩
theorem lw_p27 : lw_okq (⟨"DocumentHouse$Path", "walk", "(LDocumentHouse$Room;III)V"⟩, 5) := ⟨⟨by decide +kernel, by decide +kernel⟩, List.mem_of_getElem? (i := 110) (by decide +kernel), List.mem_of_getElem? (i := 815) (by decide +kernel), List.mem_of_getElem? (i := 816) (by decide +kernel)⟩
theorem lw_p28 : lw_okq (⟨"DocumentHouse$Room", "push", "(I)V"⟩, 3) := ⟨⟨by decide +kernel, by decide +kernel⟩, List.mem_of_getElem? (i := 32) (by decide +kernel), List.mem_of_getElem? (i := 819) (by decide +kernel), List.mem_of_getElem? (i := 820) (by decide +kernel)⟩
theorem lw_p29 : lw_okq (⟨"DocumentHouse$Index", "addKey", "([IIII)I"⟩, 14) := ⟨⟨by decide +kernel, by decide +kernel⟩, List.mem_of_getElem? (i := 323) (by decide +kernel), List.mem_of_getElem? (i := 845) (by decide +kernel), List.mem_of_getElem? (i := 846) (by decide +kernel)⟩
theorem lw_p30 : lw_okq (⟨"DocumentHouse$Room", "leaf", "(I)I"⟩, 3) := ⟨⟨by decide +kernel, by decide +kernel⟩, List.mem_of_getElem? (i := 32) (by decide +kernel), List.mem_of_getElem? (i := 854) (by decide +kernel), List.mem_of_getElem? (i := 855) (by decide +kernel)⟩
theorem lw_p31 : lw_okq (⟨"DocumentHouse$Shelf", "add", "(I)I"⟩, 10) := ⟨⟨by decide +kernel, by decide +kernel⟩, List.mem_of_getElem? (i := 313) (by decide +kernel), List.mem_of_getElem? (i := 861) (by decide +kernel), List.mem_of_getElem? (i := 862) (by decide +kernel)⟩
def lw_privs_2 : List (MethodName × Nat) := [(⟨"DocumentHouse", "wrongPaths", "()I"⟩, 19), (⟨"DocumentHouse$Path", "setPlainText", "([BII)Z"⟩, 5), (⟨"DocumentHouse$Path", "set", "([BII)Z"⟩, 5), (⟨"DocumentHouse", "isShelf", "(I)Z"⟩, 19), (⟨"DocumentHouse", "wrongChange", "()I"⟩, 19), (⟨"DocumentHouse", "wrongDown", "()I"⟩, 19), (⟨"DocumentHouse", "failAt", "(II)V"⟩, 19), (⟨"DocumentHouse", "insert", "()V"⟩, 19), (⟨"DocumentHouse$Index", "fitsAnother", "(I)Z"⟩, 14), (⟨"DocumentHouse$Index", "entriesOf", "(I)I"⟩, 14), (⟨"DocumentHouse$Index", "keysOf", "(LDocumentHouse$Path;I[II)I"⟩, 14), (⟨"DocumentHouse$Path", "walk", "(LDocumentHouse$Room;III)V"⟩, 5), (⟨"DocumentHouse$Room", "push", "(I)V"⟩, 3), (⟨"DocumentHouse$Index", "addKey", "([IIII)I"⟩, 14), (⟨"DocumentHouse$Room", "leaf", "(I)I"⟩, 3), (⟨"DocumentHouse$Shelf", "add", "(I)I"⟩, 10)]
theorem lw_r2 : ∀ q ∈ lw_privs_2, lw_okq q := List.forall_mem_cons.mpr ⟨lw_p16, List.forall_mem_cons.mpr ⟨lw_p17, List.forall_mem_cons.mpr ⟨lw_p18, List.forall_mem_cons.mpr ⟨lw_p19, List.forall_mem_cons.mpr ⟨lw_p20, List.forall_mem_cons.mpr ⟨lw_p21, List.forall_mem_cons.mpr ⟨lw_p22, List.forall_mem_cons.mpr ⟨lw_p23, List.forall_mem_cons.mpr ⟨lw_p24, List.forall_mem_cons.mpr ⟨lw_p25, List.forall_mem_cons.mpr ⟨lw_p26, List.forall_mem_cons.mpr ⟨lw_p27, List.forall_mem_cons.mpr ⟨lw_p28, List.forall_mem_cons.mpr ⟨lw_p29, List.forall_mem_cons.mpr ⟨lw_p30, List.forall_mem_cons.mpr ⟨lw_p31, fun _ h => absurd h List.not_mem_nil⟩⟩⟩⟩⟩⟩⟩⟩⟩⟩⟩⟩⟩⟩⟩⟩
theorem lw_p32 : lw_okq (⟨"DocumentHouse$Index", "takesIn", "(LDocumentHouse$Shelf;[Z)V"⟩, 14) := ⟨⟨by decide +kernel, by decide +kernel⟩, List.mem_of_getElem? (i := 323) (by decide +kernel), List.mem_of_getElem? (i := 869) (by decide +kernel), List.mem_of_getElem? (i := 870) (by decide +kernel)⟩
theorem lw_p33 : lw_okq (⟨"DocumentHouse$Tree", "comes", "([BIII)V"⟩, 19) := ⟨⟨by decide +kernel, by decide +kernel⟩, List.mem_of_getElem? (i := 331) (by decide +kernel), List.mem_of_getElem? (i := 873) (by decide +kernel), List.mem_of_getElem? (i := 874) (by decide +kernel)⟩
theorem lw_p34 : lw_okq (⟨"DocumentHouse$Tree", "fill", "(I[BIII)V"⟩, 19) := ⟨⟨by decide +kernel, by decide +kernel⟩, List.mem_of_getElem? (i := 331) (by decide +kernel), List.mem_of_getElem? (i := 877) (by decide +kernel), List.mem_of_getElem? (i := 878) (by decide +kernel)⟩
theorem lw_p35 : lw_okq (⟨"DocumentHouse$Tree", "descend", "()I"⟩, 19) := ⟨⟨by decide +kernel, by decide +kernel⟩, List.mem_of_getElem? (i := 331) (by decide +kernel), List.mem_of_getElem? (i := 886) (by decide +kernel), List.mem_of_getElem? (i := 887) (by decide +kernel)⟩
theorem lw_p36 : lw_okq (⟨"DocumentHouse$Tree", "compareSlots", "(II)I"⟩, 19) := ⟨⟨by decide +kernel, by decide +kernel⟩, List.mem_of_getElem? (i := 331) (by decide +kernel), List.mem_of_getElem? (i := 890) (by decide +kernel), List.mem_of_getElem? (i := 891) (by decide +kernel)⟩
theorem lw_p37 : lw_okq (⟨"DocumentHouse$Tree", "insertKid", "(III)V"⟩, 19) := ⟨⟨by decide +kernel, by decide +kernel⟩, List.mem_of_getElem? (i := 331) (by decide +kernel), List.mem_of_getElem? (i := 896) (by decide +kernel), List.mem_of_getElem? (i := 897) (by decide +kernel)⟩
theorem lw_p38 : lw_okq (⟨"DocumentHouse$Tree", "newSlot", "()I"⟩, 19) := ⟨⟨by decide +kernel, by decide +kernel⟩, List.mem_of_getElem? (i := 331) (by decide +kernel), List.mem_of_getElem? (i := 900) (by decide +kernel), List.mem_of_getElem? (i := 901) (by decide +kernel)⟩
theorem lw_p39 : lw_okq (⟨"DocumentHouse$Tree", "split", "(I)V"⟩, 19) := ⟨⟨by decide +kernel, by decide +kernel⟩, List.mem_of_getElem? (i := 331) (by decide +kernel), List.mem_of_getElem? (i := 913) (by decide +kernel), List.mem_of_getElem? (i := 914) (by decide +kernel)⟩
theorem lw_p40 : lw_okq (⟨"DocumentHouse$Tree", "newNode", "(Z)I"⟩, 19) := ⟨⟨by decide +kernel, by decide +kernel⟩, List.mem_of_getElem? (i := 331) (by decide +kernel), List.mem_of_getElem? (i := 917) (by decide +kernel), List.mem_of_getElem? (i := 918) (by decide +kernel)⟩
theorem lw_p41 : lw_okq (⟨"DocumentHouse$Tree", "markLike", "(I)I"⟩, 19) := ⟨⟨by decide +kernel, by decide +kernel⟩, List.mem_of_getElem? (i := 331) (by decide +kernel), List.mem_of_getElem? (i := 921) (by decide +kernel), List.mem_of_getElem? (i := 922) (by decide +kernel)⟩
theorem lw_p42 : lw_okq (⟨"DocumentHouse$Out", "named", "(Ljava/lang/String;I)V"⟩, 4) := ⟨⟨by decide +kernel, by decide +kernel⟩, List.mem_of_getElem? (i := 62) (by decide +kernel), List.mem_of_getElem? (i := 926) (by decide +kernel), List.mem_of_getElem? (i := 927) (by decide +kernel)⟩
theorem lw_p43 : lw_okq (⟨"DocumentHouse$Out", "head", "(ILjava/lang/String;)V"⟩, 4) := ⟨⟨by decide +kernel, by decide +kernel⟩, List.mem_of_getElem? (i := 62) (by decide +kernel), List.mem_of_getElem? (i := 930) (by decide +kernel), List.mem_of_getElem? (i := 931) (by decide +kernel)⟩
theorem lw_p44 : lw_okq (⟨"DocumentHouse$Out", "put", "(I)V"⟩, 4) := ⟨⟨by decide +kernel, by decide +kernel⟩, List.mem_of_getElem? (i := 62) (by decide +kernel), List.mem_of_getElem? (i := 934) (by decide +kernel), List.mem_of_getElem? (i := 935) (by decide +kernel)⟩
theorem lw_p45 : lw_okq (⟨"DocumentHouse", "find", "()V"⟩, 19) := ⟨⟨by decide +kernel, by decide +kernel⟩, List.mem_of_getElem? (i := 24) (by decide +kernel), List.mem_of_getElem? (i := 940) (by decide +kernel), List.mem_of_getElem? (i := 941) (by decide +kernel)⟩
theorem lw_p46 : lw_okq (⟨"DocumentHouse", "hitsOfFilter", "()I"⟩, 19) := ⟨⟨by decide +kernel, by decide +kernel⟩, List.mem_of_getElem? (i := 24) (by decide +kernel), List.mem_of_getElem? (i := 944) (by decide +kernel), List.mem_of_getElem? (i := 945) (by decide +kernel)⟩
theorem lw_p47 : lw_okq (⟨"DocumentHouse$Filter", "isRight", "(I)Z"⟩, 6) := ⟨⟨by decide +kernel, by decide +kernel⟩, List.mem_of_getElem? (i := 104) (by decide +kernel), List.mem_of_getElem? (i := 948) (by decide +kernel), List.mem_of_getElem? (i := 949) (by decide +kernel)⟩
def lw_privs_3 : List (MethodName × Nat) := [(⟨"DocumentHouse$Index", "takesIn", "(LDocumentHouse$Shelf;[Z)V"⟩, 14), (⟨"DocumentHouse$Tree", "comes", "([BIII)V"⟩, 19), (⟨"DocumentHouse$Tree", "fill", "(I[BIII)V"⟩, 19), (⟨"DocumentHouse$Tree", "descend", "()I"⟩, 19), (⟨"DocumentHouse$Tree", "compareSlots", "(II)I"⟩, 19), (⟨"DocumentHouse$Tree", "insertKid", "(III)V"⟩, 19), (⟨"DocumentHouse$Tree", "newSlot", "()I"⟩, 19), (⟨"DocumentHouse$Tree", "split", "(I)V"⟩, 19), (⟨"DocumentHouse$Tree", "newNode", "(Z)I"⟩, 19), (⟨"DocumentHouse$Tree", "markLike", "(I)I"⟩, 19), (⟨"DocumentHouse$Out", "named", "(Ljava/lang/String;I)V"⟩, 4), (⟨"DocumentHouse$Out", "head", "(ILjava/lang/String;)V"⟩, 4), (⟨"DocumentHouse$Out", "put", "(I)V"⟩, 4), (⟨"DocumentHouse", "find", "()V"⟩, 19), (⟨"DocumentHouse", "hitsOfFilter", "()I"⟩, 19), (⟨"DocumentHouse$Filter", "isRight", "(I)Z"⟩, 6)]
theorem lw_r3 : ∀ q ∈ lw_privs_3, lw_okq q := List.forall_mem_cons.mpr ⟨lw_p32, List.forall_mem_cons.mpr ⟨lw_p33, List.forall_mem_cons.mpr ⟨lw_p34, List.forall_mem_cons.mpr ⟨lw_p35, List.forall_mem_cons.mpr ⟨lw_p36, List.forall_mem_cons.mpr ⟨lw_p37, List.forall_mem_cons.mpr ⟨lw_p38, List.forall_mem_cons.mpr ⟨lw_p39, List.forall_mem_cons.mpr ⟨lw_p40, List.forall_mem_cons.mpr ⟨lw_p41, List.forall_mem_cons.mpr ⟨lw_p42, List.forall_mem_cons.mpr ⟨lw_p43, List.forall_mem_cons.mpr ⟨lw_p44, List.forall_mem_cons.mpr ⟨lw_p45, List.forall_mem_cons.mpr ⟨lw_p46, List.forall_mem_cons.mpr ⟨lw_p47, fun _ h => absurd h List.not_mem_nil⟩⟩⟩⟩⟩⟩⟩⟩⟩⟩⟩⟩⟩⟩⟩⟩
theorem lw_p48 : lw_okq (⟨"DocumentHouse$Filter", "filterIsRight", "(II)Z"⟩, 6) := ⟨⟨by decide +kernel, by decide +kernel⟩, List.mem_of_getElem? (i := 104) (by decide +kernel), List.mem_of_getElem? (i := 952) (by decide +kernel), List.mem_of_getElem? (i := 953) (by decide +kernel)⟩
theorem lw_p49 : lw_okq (⟨"DocumentHouse$Filter", "elementIsRight", "(II)Z"⟩, 6) := ⟨⟨by decide +kernel, by decide +kernel⟩, List.mem_of_getElem? (i := 104) (by decide +kernel), List.mem_of_getElem? (i := 958) (by decide +kernel), List.mem_of_getElem? (i := 959) (by decide +kernel)⟩
theorem lw_p50 : lw_okq (⟨"DocumentHouse$Filter", "logicIsRight", "(II)Z"⟩, 6) := ⟨⟨by decide +kernel, by decide +kernel⟩, List.mem_of_getElem? (i := 104) (by decide +kernel), List.mem_of_getElem? (i := 965) (by decide +kernel), List.mem_of_getElem? (i := 966) (by decide +kernel)⟩
theorem lw_p51 : lw_okq (⟨"DocumentHouse$Filter", "fails", "(II)Z"⟩, 6) := ⟨⟨by decide +kernel, by decide +kernel⟩, List.mem_of_getElem? (i := 104) (by decide +kernel), List.mem_of_getElem? (i := 976) (by decide +kernel), List.mem_of_getElem? (i := 977) (by decide +kernel)⟩
theorem lw_p52 : lw_okq (⟨"DocumentHouse$Filter", "counts", "(II)Z"⟩, 6) := ⟨⟨by decide +kernel, by decide +kernel⟩, List.mem_of_getElem? (i := 104) (by decide +kernel), List.mem_of_getElem? (i := 980) (by decide +kernel), List.mem_of_getElem? (i := 981) (by decide +kernel)⟩
theorem lw_p53 : lw_okq (⟨"DocumentHouse$Path", "setName", "([BI)Z"⟩, 5) := ⟨⟨by decide +kernel, by decide +kernel⟩, List.mem_of_getElem? (i := 110) (by decide +kernel), List.mem_of_getElem? (i := 985) (by decide +kernel), List.mem_of_getElem? (i := 986) (by decide +kernel)⟩
theorem lw_p54 : lw_okq (⟨"DocumentHouse$Filter", "conditionsAreRight", "(II)Z"⟩, 6) := ⟨⟨by decide +kernel, by decide +kernel⟩, List.mem_of_getElem? (i := 104) (by decide +kernel), List.mem_of_getElem? (i := 992) (by decide +kernel), List.mem_of_getElem? (i := 993) (by decide +kernel)⟩
theorem lw_p55 : lw_okq (⟨"DocumentHouse$Filter", "conditionIsRight", "(II)Z"⟩, 6) := ⟨⟨by decide +kernel, by decide +kernel⟩, List.mem_of_getElem? (i := 104) (by decide +kernel), List.mem_of_getElem? (i := 996) (by decide +kernel), List.mem_of_getElem? (i := 997) (by decide +kernel)⟩
theorem lw_p56 : lw_okq (⟨"DocumentHouse$Filter", "valueIsRight", "(II)Z"⟩, 6) := ⟨⟨by decide +kernel, by decide +kernel⟩, List.mem_of_getElem? (i := 104) (by decide +kernel), List.mem_of_getElem? (i := 1015) (by decide +kernel), List.mem_of_getElem? (i := 1016) (by decide +kernel)⟩
theorem lw_p57 : lw_okq (⟨"DocumentHouse$Filter", "holds", "(III)Z"⟩, 6) := ⟨⟨by decide +kernel, by decide +kernel⟩, List.mem_of_getElem? (i := 104) (by decide +kernel), List.mem_of_getElem? (i := 1024) (by decide +kernel), List.mem_of_getElem? (i := 1025) (by decide +kernel)⟩
theorem lw_p58 : lw_okq (⟨"DocumentHouse$Filter", "elementHolds", "(III)Z"⟩, 6) := ⟨⟨by decide +kernel, by decide +kernel⟩, List.mem_of_getElem? (i := 104) (by decide +kernel), List.mem_of_getElem? (i := 1028) (by decide +kernel), List.mem_of_getElem? (i := 1029) (by decide +kernel)⟩
theorem lw_p59 : lw_okq (⟨"DocumentHouse$Filter", "logicHolds", "(III)Z"⟩, 6) := ⟨⟨by decide +kernel, by decide +kernel⟩, List.mem_of_getElem? (i := 104) (by decide +kernel), List.mem_of_getElem? (i := 1032) (by decide +kernel), List.mem_of_getElem? (i := 1033) (by decide +kernel)⟩
theorem lw_p60 : lw_okq (⟨"DocumentHouse$Filter", "conditionsHold", "(IIII)Z"⟩, 6) := ⟨⟨by decide +kernel, by decide +kernel⟩, List.mem_of_getElem? (i := 104) (by decide +kernel), List.mem_of_getElem? (i := 1039) (by decide +kernel), List.mem_of_getElem? (i := 1040) (by decide +kernel)⟩
theorem lw_p61 : lw_okq (⟨"DocumentHouse$Filter", "conditionHolds", "(IIII)Z"⟩, 6) := ⟨⟨by decide +kernel, by decide +kernel⟩, List.mem_of_getElem? (i := 104) (by decide +kernel), List.mem_of_getElem? (i := 1043) (by decide +kernel), List.mem_of_getElem? (i := 1044) (by decide +kernel)⟩
theorem lw_p62 : lw_okq (⟨"DocumentHouse$Filter", "someIs", "(III)Z"⟩, 6) := ⟨⟨by decide +kernel, by decide +kernel⟩, List.mem_of_getElem? (i := 104) (by decide +kernel), List.mem_of_getElem? (i := 1047) (by decide +kernel), List.mem_of_getElem? (i := 1048) (by decide +kernel)⟩
theorem lw_p63 : lw_okq (⟨"DocumentHouse$Filter", "someIsIn", "(III)Z"⟩, 6) := ⟨⟨by decide +kernel, by decide +kernel⟩, List.mem_of_getElem? (i := 104) (by decide +kernel), List.mem_of_getElem? (i := 1054) (by decide +kernel), List.mem_of_getElem? (i := 1055) (by decide +kernel)⟩
def lw_privs_4 : List (MethodName × Nat) := [(⟨"DocumentHouse$Filter", "filterIsRight", "(II)Z"⟩, 6), (⟨"DocumentHouse$Filter", "elementIsRight", "(II)Z"⟩, 6), (⟨"DocumentHouse$Filter", "logicIsRight", "(II)Z"⟩, 6), (⟨"DocumentHouse$Filter", "fails", "(II)Z"⟩, 6), (⟨"DocumentHouse$Filter", "counts", "(II)Z"⟩, 6), (⟨"DocumentHouse$Path", "setName", "([BI)Z"⟩, 5), (⟨"DocumentHouse$Filter", "conditionsAreRight", "(II)Z"⟩, 6), (⟨"DocumentHouse$Filter", "conditionIsRight", "(II)Z"⟩, 6), (⟨"DocumentHouse$Filter", "valueIsRight", "(II)Z"⟩, 6), (⟨"DocumentHouse$Filter", "holds", "(III)Z"⟩, 6), (⟨"DocumentHouse$Filter", "elementHolds", "(III)Z"⟩, 6), (⟨"DocumentHouse$Filter", "logicHolds", "(III)Z"⟩, 6), (⟨"DocumentHouse$Filter", "conditionsHold", "(IIII)Z"⟩, 6), (⟨"DocumentHouse$Filter", "conditionHolds", "(IIII)Z"⟩, 6), (⟨"DocumentHouse$Filter", "someIs", "(III)Z"⟩, 6), (⟨"DocumentHouse$Filter", "someIsIn", "(III)Z"⟩, 6)]
theorem lw_r4 : ∀ q ∈ lw_privs_4, lw_okq q := List.forall_mem_cons.mpr ⟨lw_p48, List.forall_mem_cons.mpr ⟨lw_p49, List.forall_mem_cons.mpr ⟨lw_p50, List.forall_mem_cons.mpr ⟨lw_p51, List.forall_mem_cons.mpr ⟨lw_p52, List.forall_mem_cons.mpr ⟨lw_p53, List.forall_mem_cons.mpr ⟨lw_p54, List.forall_mem_cons.mpr ⟨lw_p55, List.forall_mem_cons.mpr ⟨lw_p56, List.forall_mem_cons.mpr ⟨lw_p57, List.forall_mem_cons.mpr ⟨lw_p58, List.forall_mem_cons.mpr ⟨lw_p59, List.forall_mem_cons.mpr ⟨lw_p60, List.forall_mem_cons.mpr ⟨lw_p61, List.forall_mem_cons.mpr ⟨lw_p62, List.forall_mem_cons.mpr ⟨lw_p63, fun _ h => absurd h List.not_mem_nil⟩⟩⟩⟩⟩⟩⟩⟩⟩⟩⟩⟩⟩⟩⟩⟩
theorem lw_p64 : lw_okq (⟨"DocumentHouse$Filter", "someExists", "(II)Z"⟩, 6) := ⟨⟨by decide +kernel, by decide +kernel⟩, List.mem_of_getElem? (i := 104) (by decide +kernel), List.mem_of_getElem? (i := 1058) (by decide +kernel), List.mem_of_getElem? (i := 1059) (by decide +kernel)⟩
theorem lw_p65 : lw_okq (⟨"DocumentHouse$Filter", "someCounts", "(JII)Z"⟩, 6) := ⟨⟨by decide +kernel, by decide +kernel⟩, List.mem_of_getElem? (i := 104) (by decide +kernel), List.mem_of_getElem? (i := 1065) (by decide +kernel), List.mem_of_getElem? (i := 1066) (by decide +kernel)⟩
theorem lw_p66 : lw_okq (⟨"DocumentHouse$Filter", "someHasItem", "(IIII)Z"⟩, 6) := ⟨⟨by decide +kernel, by decide +kernel⟩, List.mem_of_getElem? (i := 104) (by decide +kernel), List.mem_of_getElem? (i := 1070) (by decide +kernel), List.mem_of_getElem? (i := 1071) (by decide +kernel)⟩
theorem lw_p67 : lw_okq (⟨"DocumentHouse$Filter", "conditionsHoldForItem", "(III)Z"⟩, 6) := ⟨⟨by decide +kernel, by decide +kernel⟩, List.mem_of_getElem? (i := 104) (by decide +kernel), List.mem_of_getElem? (i := 1074) (by decide +kernel), List.mem_of_getElem? (i := 1075) (by decide +kernel)⟩
theorem lw_p68 : lw_okq (⟨"DocumentHouse$Filter", "someIsSo", "(IIII)Z"⟩, 6) := ⟨⟨by decide +kernel, by decide +kernel⟩, List.mem_of_getElem? (i := 104) (by decide +kernel), List.mem_of_getElem? (i := 1078) (by decide +kernel), List.mem_of_getElem? (i := 1079) (by decide +kernel)⟩
theorem lw_p69 : lw_okq (⟨"DocumentHouse$Filter", "isSo", "(III)Z"⟩, 6) := ⟨⟨by decide +kernel, by decide +kernel⟩, List.mem_of_getElem? (i := 104) (by decide +kernel), List.mem_of_getElem? (i := 1082) (by decide +kernel), List.mem_of_getElem? (i := 1083) (by decide +kernel)⟩
theorem lw_p70 : lw_okq (⟨"DocumentHouse$Out", "item", "(II)V"⟩, 4) := ⟨⟨by decide +kernel, by decide +kernel⟩, List.mem_of_getElem? (i := 62) (by decide +kernel), List.mem_of_getElem? (i := 1090) (by decide +kernel), List.mem_of_getElem? (i := 1091) (by decide +kernel)⟩
theorem lw_p71 : lw_okq (⟨"DocumentHouse$Out", "value", "([BI)V"⟩, 4) := ⟨⟨by decide +kernel, by decide +kernel⟩, List.mem_of_getElem? (i := 62) (by decide +kernel), List.mem_of_getElem? (i := 1096) (by decide +kernel), List.mem_of_getElem? (i := 1097) (by decide +kernel)⟩
theorem lw_p72 : lw_okq (⟨"DocumentHouse$Out", "copy", "([BII)V"⟩, 4) := ⟨⟨by decide +kernel, by decide +kernel⟩, List.mem_of_getElem? (i := 62) (by decide +kernel), List.mem_of_getElem? (i := 1102) (by decide +kernel), List.mem_of_getElem? (i := 1103) (by decide +kernel)⟩
theorem lw_p73 : lw_okq (⟨"DocumentHouse$Out", "close", "(I)V"⟩, 4) := ⟨⟨by decide +kernel, by decide +kernel⟩, List.mem_of_getElem? (i := 62) (by decide +kernel), List.mem_of_getElem? (i := 1107) (by decide +kernel), List.mem_of_getElem? (i := 1108) (by decide +kernel)⟩
theorem lw_p74 : lw_okq (⟨"DocumentHouse$Out", "patch", "(II)V"⟩, 4) := ⟨⟨by decide +kernel, by decide +kernel⟩, List.mem_of_getElem? (i := 62) (by decide +kernel), List.mem_of_getElem? (i := 1111) (by decide +kernel), List.mem_of_getElem? (i := 1112) (by decide +kernel)⟩
theorem lw_p75 : lw_okq (⟨"DocumentHouse", "count", "()V"⟩, 19) := ⟨⟨by decide +kernel, by decide +kernel⟩, List.mem_of_getElem? (i := 24) (by decide +kernel), List.mem_of_getElem? (i := 1115) (by decide +kernel), List.mem_of_getElem? (i := 1116) (by decide +kernel)⟩
theorem lw_p76 : lw_okq (⟨"DocumentHouse", "update", "()V"⟩, 19) := ⟨⟨by decide +kernel, by decide +kernel⟩, List.mem_of_getElem? (i := 24) (by decide +kernel), List.mem_of_getElem? (i := 1119) (by decide +kernel), List.mem_of_getElem? (i := 1120) (by decide +kernel)⟩
theorem lw_p77 : lw_okq (⟨"DocumentHouse$Change", "isRight", "(I)Z"⟩, 9) := ⟨⟨by decide +kernel, by decide +kernel⟩, List.mem_of_getElem? (i := 163) (by decide +kernel), List.mem_of_getElem? (i := 1123) (by decide +kernel), List.mem_of_getElem? (i := 1124) (by decide +kernel)⟩
theorem lw_p78 : lw_okq (⟨"DocumentHouse$Change", "fails", "(II)Z"⟩, 9) := ⟨⟨by decide +kernel, by decide +kernel⟩, List.mem_of_getElem? (i := 163) (by decide +kernel), List.mem_of_getElem? (i := 1139) (by decide +kernel), List.mem_of_getElem? (i := 1140) (by decide +kernel)⟩
theorem lw_p79 : lw_okq (⟨"DocumentHouse$Change", "clashes", "(II)Z"⟩, 9) := ⟨⟨by decide +kernel, by decide +kernel⟩, List.mem_of_getElem? (i := 163) (by decide +kernel), List.mem_of_getElem? (i := 1145) (by decide +kernel), List.mem_of_getElem? (i := 1146) (by decide +kernel)⟩
def lw_privs_5 : List (MethodName × Nat) := [(⟨"DocumentHouse$Filter", "someExists", "(II)Z"⟩, 6), (⟨"DocumentHouse$Filter", "someCounts", "(JII)Z"⟩, 6), (⟨"DocumentHouse$Filter", "someHasItem", "(IIII)Z"⟩, 6), (⟨"DocumentHouse$Filter", "conditionsHoldForItem", "(III)Z"⟩, 6), (⟨"DocumentHouse$Filter", "someIsSo", "(IIII)Z"⟩, 6), (⟨"DocumentHouse$Filter", "isSo", "(III)Z"⟩, 6), (⟨"DocumentHouse$Out", "item", "(II)V"⟩, 4), (⟨"DocumentHouse$Out", "value", "([BI)V"⟩, 4), (⟨"DocumentHouse$Out", "copy", "([BII)V"⟩, 4), (⟨"DocumentHouse$Out", "close", "(I)V"⟩, 4), (⟨"DocumentHouse$Out", "patch", "(II)V"⟩, 4), (⟨"DocumentHouse", "count", "()V"⟩, 19), (⟨"DocumentHouse", "update", "()V"⟩, 19), (⟨"DocumentHouse$Change", "isRight", "(I)Z"⟩, 9), (⟨"DocumentHouse$Change", "fails", "(II)Z"⟩, 9), (⟨"DocumentHouse$Change", "clashes", "(II)Z"⟩, 9)]
theorem lw_r5 : ∀ q ∈ lw_privs_5, lw_okq q := List.forall_mem_cons.mpr ⟨lw_p64, List.forall_mem_cons.mpr ⟨lw_p65, List.forall_mem_cons.mpr ⟨lw_p66, List.forall_mem_cons.mpr ⟨lw_p67, List.forall_mem_cons.mpr ⟨lw_p68, List.forall_mem_cons.mpr ⟨lw_p69, List.forall_mem_cons.mpr ⟨lw_p70, List.forall_mem_cons.mpr ⟨lw_p71, List.forall_mem_cons.mpr ⟨lw_p72, List.forall_mem_cons.mpr ⟨lw_p73, List.forall_mem_cons.mpr ⟨lw_p74, List.forall_mem_cons.mpr ⟨lw_p75, List.forall_mem_cons.mpr ⟨lw_p76, List.forall_mem_cons.mpr ⟨lw_p77, List.forall_mem_cons.mpr ⟨lw_p78, List.forall_mem_cons.mpr ⟨lw_p79, fun _ h => absurd h List.not_mem_nil⟩⟩⟩⟩⟩⟩⟩⟩⟩⟩⟩⟩⟩⟩⟩⟩
theorem lw_p80 : lw_okq (⟨"DocumentHouse$Change", "oneBeginsOther", "(II)Z"⟩, 9) := ⟨⟨by decide +kernel, by decide +kernel⟩, List.mem_of_getElem? (i := 163) (by decide +kernel), List.mem_of_getElem? (i := 1149) (by decide +kernel), List.mem_of_getElem? (i := 1150) (by decide +kernel)⟩
theorem lw_p81 : lw_okq (⟨"DocumentHouse$Change", "does", "(II)Z"⟩, 9) := ⟨⟨by decide +kernel, by decide +kernel⟩, List.mem_of_getElem? (i := 163) (by decide +kernel), List.mem_of_getElem? (i := 1159) (by decide +kernel), List.mem_of_getElem? (i := 1160) (by decide +kernel)⟩
theorem lw_p82 : lw_okq (⟨"DocumentHouse$Change", "takes", "(II)I"⟩, 9) := ⟨⟨by decide +kernel, by decide +kernel⟩, List.mem_of_getElem? (i := 163) (by decide +kernel), List.mem_of_getElem? (i := 1165) (by decide +kernel), List.mem_of_getElem? (i := 1166) (by decide +kernel)⟩
theorem lw_p83 : lw_okq (⟨"DocumentHouse$Change", "link", "(I)V"⟩, 9) := ⟨⟨by decide +kernel, by decide +kernel⟩, List.mem_of_getElem? (i := 163) (by decide +kernel), List.mem_of_getElem? (i := 1169) (by decide +kernel), List.mem_of_getElem? (i := 1170) (by decide +kernel)⟩
theorem lw_p84 : lw_okq (⟨"DocumentHouse$Change", "unset", "(I)V"⟩, 9) := ⟨⟨by decide +kernel, by decide +kernel⟩, List.mem_of_getElem? (i := 163) (by decide +kernel), List.mem_of_getElem? (i := 1174) (by decide +kernel), List.mem_of_getElem? (i := 1175) (by decide +kernel)⟩
theorem lw_p85 : lw_okq (⟨"DocumentHouse$Change", "splice", "(III)Z"⟩, 9) := ⟨⟨by decide +kernel, by decide +kernel⟩, List.mem_of_getElem? (i := 163) (by decide +kernel), List.mem_of_getElem? (i := 1178) (by decide +kernel), List.mem_of_getElem? (i := 1179) (by decide +kernel)⟩
theorem lw_p86 : lw_okq (⟨"DocumentHouse$Change", "pull", "(II)I"⟩, 9) := ⟨⟨by decide +kernel, by decide +kernel⟩, List.mem_of_getElem? (i := 163) (by decide +kernel), List.mem_of_getElem? (i := 1186) (by decide +kernel), List.mem_of_getElem? (i := 1187) (by decide +kernel)⟩
theorem lw_p87 : lw_okq (⟨"DocumentHouse$Change", "makes", "(II)I"⟩, 9) := ⟨⟨by decide +kernel, by decide +kernel⟩, List.mem_of_getElem? (i := 163) (by decide +kernel), List.mem_of_getElem? (i := 1197) (by decide +kernel), List.mem_of_getElem? (i := 1198) (by decide +kernel)⟩
theorem lw_p88 : lw_okq (⟨"DocumentHouse$Change", "comesFree", "(III)I"⟩, 9) := ⟨⟨by decide +kernel, by decide +kernel⟩, List.mem_of_getElem? (i := 163) (by decide +kernel), List.mem_of_getElem? (i := 1202) (by decide +kernel), List.mem_of_getElem? (i := 1203) (by decide +kernel)⟩
theorem lw_p89 : lw_okq (⟨"DocumentHouse$Change", "behindOthers", "()I"⟩, 9) := ⟨⟨by decide +kernel, by decide +kernel⟩, List.mem_of_getElem? (i := 163) (by decide +kernel), List.mem_of_getElem? (i := 1206) (by decide +kernel), List.mem_of_getElem? (i := 1207) (by decide +kernel)⟩
theorem lw_p90 : lw_okq (⟨"DocumentHouse$Out", "headOf", "(I[BII)V"⟩, 4) := ⟨⟨by decide +kernel, by decide +kernel⟩, List.mem_of_getElem? (i := 62) (by decide +kernel), List.mem_of_getElem? (i := 1210) (by decide +kernel), List.mem_of_getElem? (i := 1211) (by decide +kernel)⟩
theorem lw_p91 : lw_okq (⟨"DocumentHouse$Change", "comesTo", "(III)I"⟩, 9) := ⟨⟨by decide +kernel, by decide +kernel⟩, List.mem_of_getElem? (i := 163) (by decide +kernel), List.mem_of_getElem? (i := 1217) (by decide +kernel), List.mem_of_getElem? (i := 1218) (by decide +kernel)⟩
theorem lw_p92 : lw_okq (⟨"DocumentHouse$Change", "replace", "(II)I"⟩, 9) := ⟨⟨by decide +kernel, by decide +kernel⟩, List.mem_of_getElem? (i := 163) (by decide +kernel), List.mem_of_getElem? (i := 1221) (by decide +kernel), List.mem_of_getElem? (i := 1222) (by decide +kernel)⟩
theorem lw_p93 : lw_okq (⟨"DocumentHouse$Change", "add", "(II)I"⟩, 9) := ⟨⟨by decide +kernel, by decide +kernel⟩, List.mem_of_getElem? (i := 163) (by decide +kernel), List.mem_of_getElem? (i := 1225) (by decide +kernel), List.mem_of_getElem? (i := 1226) (by decide +kernel)⟩
theorem lw_p94 : lw_okq (⟨"DocumentHouse$Out", "put8", "(J)V"⟩, 4) := ⟨⟨by decide +kernel, by decide +kernel⟩, List.mem_of_getElem? (i := 62) (by decide +kernel), List.mem_of_getElem? (i := 1231) (by decide +kernel), List.mem_of_getElem? (i := 1232) (by decide +kernel)⟩
theorem lw_p95 : lw_okq (⟨"DocumentHouse$Change", "makeDocument", "(I)I"⟩, 9) := ⟨⟨by decide +kernel, by decide +kernel⟩, List.mem_of_getElem? (i := 163) (by decide +kernel), List.mem_of_getElem? (i := 1235) (by decide +kernel), List.mem_of_getElem? (i := 1236) (by decide +kernel)⟩
def lw_privs_6 : List (MethodName × Nat) := [(⟨"DocumentHouse$Change", "oneBeginsOther", "(II)Z"⟩, 9), (⟨"DocumentHouse$Change", "does", "(II)Z"⟩, 9), (⟨"DocumentHouse$Change", "takes", "(II)I"⟩, 9), (⟨"DocumentHouse$Change", "link", "(I)V"⟩, 9), (⟨"DocumentHouse$Change", "unset", "(I)V"⟩, 9), (⟨"DocumentHouse$Change", "splice", "(III)Z"⟩, 9), (⟨"DocumentHouse$Change", "pull", "(II)I"⟩, 9), (⟨"DocumentHouse$Change", "makes", "(II)I"⟩, 9), (⟨"DocumentHouse$Change", "comesFree", "(III)I"⟩, 9), (⟨"DocumentHouse$Change", "behindOthers", "()I"⟩, 9), (⟨"DocumentHouse$Out", "headOf", "(I[BII)V"⟩, 4), (⟨"DocumentHouse$Change", "comesTo", "(III)I"⟩, 9), (⟨"DocumentHouse$Change", "replace", "(II)I"⟩, 9), (⟨"DocumentHouse$Change", "add", "(II)I"⟩, 9), (⟨"DocumentHouse$Out", "put8", "(J)V"⟩, 4), (⟨"DocumentHouse$Change", "makeDocument", "(I)I"⟩, 9)]
theorem lw_r6 : ∀ q ∈ lw_privs_6, lw_okq q := List.forall_mem_cons.mpr ⟨lw_p80, List.forall_mem_cons.mpr ⟨lw_p81, List.forall_mem_cons.mpr ⟨lw_p82, List.forall_mem_cons.mpr ⟨lw_p83, List.forall_mem_cons.mpr ⟨lw_p84, List.forall_mem_cons.mpr ⟨lw_p85, List.forall_mem_cons.mpr ⟨lw_p86, List.forall_mem_cons.mpr ⟨lw_p87, List.forall_mem_cons.mpr ⟨lw_p88, List.forall_mem_cons.mpr ⟨lw_p89, List.forall_mem_cons.mpr ⟨lw_p90, List.forall_mem_cons.mpr ⟨lw_p91, List.forall_mem_cons.mpr ⟨lw_p92, List.forall_mem_cons.mpr ⟨lw_p93, List.forall_mem_cons.mpr ⟨lw_p94, List.forall_mem_cons.mpr ⟨lw_p95, fun _ h => absurd h List.not_mem_nil⟩⟩⟩⟩⟩⟩⟩⟩⟩⟩⟩⟩⟩⟩⟩⟩
theorem lw_p96 : lw_okq (⟨"DocumentHouse$Index", "fitsAll", "([II)Z"⟩, 14) := ⟨⟨by decide +kernel, by decide +kernel⟩, List.mem_of_getElem? (i := 323) (by decide +kernel), List.mem_of_getElem? (i := 1249) (by decide +kernel), List.mem_of_getElem? (i := 1250) (by decide +kernel)⟩
theorem lw_p97 : lw_okq (⟨"DocumentHouse$Index", "takesOut", "(LDocumentHouse$Shelf;[Z)V"⟩, 14) := ⟨⟨by decide +kernel, by decide +kernel⟩, List.mem_of_getElem? (i := 323) (by decide +kernel), List.mem_of_getElem? (i := 1253) (by decide +kernel), List.mem_of_getElem? (i := 1254) (by decide +kernel)⟩
theorem lw_p98 : lw_okq (⟨"DocumentHouse$Tree", "goes", "([BIII)V"⟩, 19) := ⟨⟨by decide +kernel, by decide +kernel⟩, List.mem_of_getElem? (i := 331) (by decide +kernel), List.mem_of_getElem? (i := 1257) (by decide +kernel), List.mem_of_getElem? (i := 1258) (by decide +kernel)⟩
theorem lw_p99 : lw_okq (⟨"DocumentHouse$Tree", "removeKid", "(II)V"⟩, 19) := ⟨⟨by decide +kernel, by decide +kernel⟩, List.mem_of_getElem? (i := 331) (by decide +kernel), List.mem_of_getElem? (i := 1261) (by decide +kernel), List.mem_of_getElem? (i := 1262) (by decide +kernel)⟩
theorem lw_p100 : lw_okq (⟨"DocumentHouse$Tree", "freeSlot", "(I)V"⟩, 19) := ⟨⟨by decide +kernel, by decide +kernel⟩, List.mem_of_getElem? (i := 331) (by decide +kernel), List.mem_of_getElem? (i := 1265) (by decide +kernel), List.mem_of_getElem? (i := 1266) (by decide +kernel)⟩
theorem lw_p101 : lw_okq (⟨"DocumentHouse$Tree", "mend", "(I)V"⟩, 19) := ⟨⟨by decide +kernel, by decide +kernel⟩, List.mem_of_getElem? (i := 331) (by decide +kernel), List.mem_of_getElem? (i := 1269) (by decide +kernel), List.mem_of_getElem? (i := 1270) (by decide +kernel)⟩
theorem lw_p102 : lw_okq (⟨"DocumentHouse$Tree", "takeLast", "(III)V"⟩, 19) := ⟨⟨by decide +kernel, by decide +kernel⟩, List.mem_of_getElem? (i := 331) (by decide +kernel), List.mem_of_getElem? (i := 1273) (by decide +kernel), List.mem_of_getElem? (i := 1274) (by decide +kernel)⟩
theorem lw_p103 : lw_okq (⟨"DocumentHouse$Tree", "takeFirst", "(III)V"⟩, 19) := ⟨⟨by decide +kernel, by decide +kernel⟩, List.mem_of_getElem? (i := 331) (by decide +kernel), List.mem_of_getElem? (i := 1277) (by decide +kernel), List.mem_of_getElem? (i := 1278) (by decide +kernel)⟩
theorem lw_p104 : lw_okq (⟨"DocumentHouse$Tree", "join", "(II)V"⟩, 19) := ⟨⟨by decide +kernel, by decide +kernel⟩, List.mem_of_getElem? (i := 331) (by decide +kernel), List.mem_of_getElem? (i := 1281) (by decide +kernel), List.mem_of_getElem? (i := 1282) (by decide +kernel)⟩
theorem lw_p105 : lw_okq (⟨"DocumentHouse$Tree", "freeNode", "(I)V"⟩, 19) := ⟨⟨by decide +kernel, by decide +kernel⟩, List.mem_of_getElem? (i := 331) (by decide +kernel), List.mem_of_getElem? (i := 1285) (by decide +kernel), List.mem_of_getElem? (i := 1286) (by decide +kernel)⟩
theorem lw_p106 : lw_okq (⟨"DocumentHouse$Shelf", "renew", "([I)V"⟩, 10) := ⟨⟨by decide +kernel, by decide +kernel⟩, List.mem_of_getElem? (i := 313) (by decide +kernel), List.mem_of_getElem? (i := 1289) (by decide +kernel), List.mem_of_getElem? (i := 1290) (by decide +kernel)⟩
theorem lw_p107 : lw_okq (⟨"DocumentHouse", "delete", "()V"⟩, 19) := ⟨⟨by decide +kernel, by decide +kernel⟩, List.mem_of_getElem? (i := 24) (by decide +kernel), List.mem_of_getElem? (i := 1295) (by decide +kernel), List.mem_of_getElem? (i := 1296) (by decide +kernel)⟩
theorem lw_p108 : lw_okq (⟨"DocumentHouse$Shelf", "remove", "([Z)V"⟩, 10) := ⟨⟨by decide +kernel, by decide +kernel⟩, List.mem_of_getElem? (i := 313) (by decide +kernel), List.mem_of_getElem? (i := 1299) (by decide +kernel), List.mem_of_getElem? (i := 1300) (by decide +kernel)⟩
theorem lw_p109 : lw_okq (⟨"DocumentHouse", "makeIndex", "()V"⟩, 19) := ⟨⟨by decide +kernel, by decide +kernel⟩, List.mem_of_getElem? (i := 24) (by decide +kernel), List.mem_of_getElem? (i := 1303) (by decide +kernel), List.mem_of_getElem? (i := 1304) (by decide +kernel)⟩
theorem lw_p110 : lw_okq (⟨"DocumentHouse$Shelf", "freeIndex", "()I"⟩, 10) := ⟨⟨by decide +kernel, by decide +kernel⟩, List.mem_of_getElem? (i := 313) (by decide +kernel), List.mem_of_getElem? (i := 1307) (by decide +kernel), List.mem_of_getElem? (i := 1308) (by decide +kernel)⟩
theorem lw_p111 : lw_okq (⟨"DocumentHouse$Index", "prepare", "(II)V"⟩, 14) := ⟨⟨by decide +kernel, by decide +kernel⟩, List.mem_of_getElem? (i := 323) (by decide +kernel), List.mem_of_getElem? (i := 1311) (by decide +kernel), List.mem_of_getElem? (i := 1312) (by decide +kernel)⟩
def lw_privs_7 : List (MethodName × Nat) := [(⟨"DocumentHouse$Index", "fitsAll", "([II)Z"⟩, 14), (⟨"DocumentHouse$Index", "takesOut", "(LDocumentHouse$Shelf;[Z)V"⟩, 14), (⟨"DocumentHouse$Tree", "goes", "([BIII)V"⟩, 19), (⟨"DocumentHouse$Tree", "removeKid", "(II)V"⟩, 19), (⟨"DocumentHouse$Tree", "freeSlot", "(I)V"⟩, 19), (⟨"DocumentHouse$Tree", "mend", "(I)V"⟩, 19), (⟨"DocumentHouse$Tree", "takeLast", "(III)V"⟩, 19), (⟨"DocumentHouse$Tree", "takeFirst", "(III)V"⟩, 19), (⟨"DocumentHouse$Tree", "join", "(II)V"⟩, 19), (⟨"DocumentHouse$Tree", "freeNode", "(I)V"⟩, 19), (⟨"DocumentHouse$Shelf", "renew", "([I)V"⟩, 10), (⟨"DocumentHouse", "delete", "()V"⟩, 19), (⟨"DocumentHouse$Shelf", "remove", "([Z)V"⟩, 10), (⟨"DocumentHouse", "makeIndex", "()V"⟩, 19), (⟨"DocumentHouse$Shelf", "freeIndex", "()I"⟩, 10), (⟨"DocumentHouse$Index", "prepare", "(II)V"⟩, 14)]
theorem lw_r7 : ∀ q ∈ lw_privs_7, lw_okq q := List.forall_mem_cons.mpr ⟨lw_p96, List.forall_mem_cons.mpr ⟨lw_p97, List.forall_mem_cons.mpr ⟨lw_p98, List.forall_mem_cons.mpr ⟨lw_p99, List.forall_mem_cons.mpr ⟨lw_p100, List.forall_mem_cons.mpr ⟨lw_p101, List.forall_mem_cons.mpr ⟨lw_p102, List.forall_mem_cons.mpr ⟨lw_p103, List.forall_mem_cons.mpr ⟨lw_p104, List.forall_mem_cons.mpr ⟨lw_p105, List.forall_mem_cons.mpr ⟨lw_p106, List.forall_mem_cons.mpr ⟨lw_p107, List.forall_mem_cons.mpr ⟨lw_p108, List.forall_mem_cons.mpr ⟨lw_p109, List.forall_mem_cons.mpr ⟨lw_p110, List.forall_mem_cons.mpr ⟨lw_p111, fun _ h => absurd h List.not_mem_nil⟩⟩⟩⟩⟩⟩⟩⟩⟩⟩⟩⟩⟩⟩⟩⟩
theorem lw_p112 : lw_okq (⟨"DocumentHouse$Index", "takePath", "(LDocumentHouse$Path;I)V"⟩, 14) := ⟨⟨by decide +kernel, by decide +kernel⟩, List.mem_of_getElem? (i := 323) (by decide +kernel), List.mem_of_getElem? (i := 1315) (by decide +kernel), List.mem_of_getElem? (i := 1316) (by decide +kernel)⟩
theorem lw_p113 : lw_okq (⟨"DocumentHouse$Tree", "clear", "(II)V"⟩, 19) := ⟨⟨by decide +kernel, by decide +kernel⟩, List.mem_of_getElem? (i := 331) (by decide +kernel), List.mem_of_getElem? (i := 1323) (by decide +kernel), List.mem_of_getElem? (i := 1324) (by decide +kernel)⟩
theorem lw_p114 : lw_okq (⟨"DocumentHouse", "drop", "()V"⟩, 19) := ⟨⟨by decide +kernel, by decide +kernel⟩, List.mem_of_getElem? (i := 24) (by decide +kernel), List.mem_of_getElem? (i := 1327) (by decide +kernel), List.mem_of_getElem? (i := 1328) (by decide +kernel)⟩
theorem lw_p115 : lw_okq (⟨"DocumentHouse", "askedIndex", "()LDocumentHouse$Index;"⟩, 19) := ⟨⟨by decide +kernel, by decide +kernel⟩, List.mem_of_getElem? (i := 24) (by decide +kernel), List.mem_of_getElem? (i := 1331) (by decide +kernel), List.mem_of_getElem? (i := 1332) (by decide +kernel)⟩
theorem lw_p116 : lw_okq (⟨"DocumentHouse$Out", "namedTruth", "(Ljava/lang/String;Z)V"⟩, 4) := ⟨⟨by decide +kernel, by decide +kernel⟩, List.mem_of_getElem? (i := 62) (by decide +kernel), List.mem_of_getElem? (i := 1337) (by decide +kernel), List.mem_of_getElem? (i := 1338) (by decide +kernel)⟩
theorem lw_p117 : lw_okq (⟨"DocumentHouse", "pipeline", "()V"⟩, 19) := ⟨⟨by decide +kernel, by decide +kernel⟩, List.mem_of_getElem? (i := 24) (by decide +kernel), List.mem_of_getElem? (i := 1341) (by decide +kernel), List.mem_of_getElem? (i := 1342) (by decide +kernel)⟩
theorem lw_p118 : lw_okq (⟨"DocumentHouse$Stages", "begin", "(LDocumentHouse$Shelf;LDocumentHouse$Shelf;)V"⟩, 20) := ⟨⟨by decide +kernel, by decide +kernel⟩, List.mem_of_getElem? (i := 205) (by decide +kernel), List.mem_of_getElem? (i := 1345) (by decide +kernel), List.mem_of_getElem? (i := 1346) (by decide +kernel)⟩
theorem lw_p119 : lw_okq (⟨"DocumentHouse$Stages", "isMatch", "(I)Z"⟩, 20) := ⟨⟨by decide +kernel, by decide +kernel⟩, List.mem_of_getElem? (i := 205) (by decide +kernel), List.mem_of_getElem? (i := 1351) (by decide +kernel), List.mem_of_getElem? (i := 1352) (by decide +kernel)⟩
theorem lw_p120 : lw_okq (⟨"DocumentHouse$Stages", "match", "(LDocumentHouse$Filter;I)V"⟩, 20) := ⟨⟨by decide +kernel, by decide +kernel⟩, List.mem_of_getElem? (i := 205) (by decide +kernel), List.mem_of_getElem? (i := 1360) (by decide +kernel), List.mem_of_getElem? (i := 1361) (by decide +kernel)⟩
theorem lw_p121 : lw_okq (⟨"DocumentHouse$Stages", "does", "(I)I"⟩, 20) := ⟨⟨by decide +kernel, by decide +kernel⟩, List.mem_of_getElem? (i := 205) (by decide +kernel), List.mem_of_getElem? (i := 1365) (by decide +kernel), List.mem_of_getElem? (i := 1366) (by decide +kernel)⟩
theorem lw_p122 : lw_okq (⟨"DocumentHouse$Stages", "project", "(I)I"⟩, 20) := ⟨⟨by decide +kernel, by decide +kernel⟩, List.mem_of_getElem? (i := 205) (by decide +kernel), List.mem_of_getElem? (i := 1379) (by decide +kernel), List.mem_of_getElem? (i := 1380) (by decide +kernel)⟩
theorem lw_p123 : lw_okq (⟨"DocumentHouse$Stages", "wrongInProject", "(I)I"⟩, 20) := ⟨⟨by decide +kernel, by decide +kernel⟩, List.mem_of_getElem? (i := 205) (by decide +kernel), List.mem_of_getElem? (i := 1383) (by decide +kernel), List.mem_of_getElem? (i := 1384) (by decide +kernel)⟩
theorem lw_p124 : lw_okq (⟨"DocumentHouse$Stages", "hasPlainName", "(I)Z"⟩, 20) := ⟨⟨by decide +kernel, by decide +kernel⟩, List.mem_of_getElem? (i := 205) (by decide +kernel), List.mem_of_getElem? (i := 1387) (by decide +kernel), List.mem_of_getElem? (i := 1388) (by decide +kernel)⟩
theorem lw_p125 : lw_okq (⟨"DocumentHouse$Stages", "isPlain", "(II)Z"⟩, 20) := ⟨⟨by decide +kernel, by decide +kernel⟩, List.mem_of_getElem? (i := 205) (by decide +kernel), List.mem_of_getElem? (i := 1392) (by decide +kernel), List.mem_of_getElem? (i := 1393) (by decide +kernel)⟩
theorem lw_p126 : lw_okq (⟨"DocumentHouse$Stages", "isWrongExpression", "(I)Z"⟩, 20) := ⟨⟨by decide +kernel, by decide +kernel⟩, List.mem_of_getElem? (i := 205) (by decide +kernel), List.mem_of_getElem? (i := 1396) (by decide +kernel), List.mem_of_getElem? (i := 1397) (by decide +kernel)⟩
theorem lw_p127 : lw_okq (⟨"DocumentHouse$Stages", "isDollarText", "(I)Z"⟩, 20) := ⟨⟨by decide +kernel, by decide +kernel⟩, List.mem_of_getElem? (i := 205) (by decide +kernel), List.mem_of_getElem? (i := 1400) (by decide +kernel), List.mem_of_getElem? (i := 1401) (by decide +kernel)⟩
def lw_privs_8 : List (MethodName × Nat) := [(⟨"DocumentHouse$Index", "takePath", "(LDocumentHouse$Path;I)V"⟩, 14), (⟨"DocumentHouse$Tree", "clear", "(II)V"⟩, 19), (⟨"DocumentHouse", "drop", "()V"⟩, 19), (⟨"DocumentHouse", "askedIndex", "()LDocumentHouse$Index;"⟩, 19), (⟨"DocumentHouse$Out", "namedTruth", "(Ljava/lang/String;Z)V"⟩, 4), (⟨"DocumentHouse", "pipeline", "()V"⟩, 19), (⟨"DocumentHouse$Stages", "begin", "(LDocumentHouse$Shelf;LDocumentHouse$Shelf;)V"⟩, 20), (⟨"DocumentHouse$Stages", "isMatch", "(I)Z"⟩, 20), (⟨"DocumentHouse$Stages", "match", "(LDocumentHouse$Filter;I)V"⟩, 20), (⟨"DocumentHouse$Stages", "does", "(I)I"⟩, 20), (⟨"DocumentHouse$Stages", "project", "(I)I"⟩, 20), (⟨"DocumentHouse$Stages", "wrongInProject", "(I)I"⟩, 20), (⟨"DocumentHouse$Stages", "hasPlainName", "(I)Z"⟩, 20), (⟨"DocumentHouse$Stages", "isPlain", "(II)Z"⟩, 20), (⟨"DocumentHouse$Stages", "isWrongExpression", "(I)Z"⟩, 20), (⟨"DocumentHouse$Stages", "isDollarText", "(I)Z"⟩, 20)]
theorem lw_r8 : ∀ q ∈ lw_privs_8, lw_okq q := List.forall_mem_cons.mpr ⟨lw_p112, List.forall_mem_cons.mpr ⟨lw_p113, List.forall_mem_cons.mpr ⟨lw_p114, List.forall_mem_cons.mpr ⟨lw_p115, List.forall_mem_cons.mpr ⟨lw_p116, List.forall_mem_cons.mpr ⟨lw_p117, List.forall_mem_cons.mpr ⟨lw_p118, List.forall_mem_cons.mpr ⟨lw_p119, List.forall_mem_cons.mpr ⟨lw_p120, List.forall_mem_cons.mpr ⟨lw_p121, List.forall_mem_cons.mpr ⟨lw_p122, List.forall_mem_cons.mpr ⟨lw_p123, List.forall_mem_cons.mpr ⟨lw_p124, List.forall_mem_cons.mpr ⟨lw_p125, List.forall_mem_cons.mpr ⟨lw_p126, List.forall_mem_cons.mpr ⟨lw_p127, fun _ h => absurd h List.not_mem_nil⟩⟩⟩⟩⟩⟩⟩⟩⟩⟩⟩⟩⟩⟩⟩⟩
theorem lw_p128 : lw_okq (⟨"DocumentHouse$Stages", "beginFresh", "()V"⟩, 20) := ⟨⟨by decide +kernel, by decide +kernel⟩, List.mem_of_getElem? (i := 205) (by decide +kernel), List.mem_of_getElem? (i := 1406) (by decide +kernel), List.mem_of_getElem? (i := 1407) (by decide +kernel)⟩
theorem lw_p129 : lw_okq (⟨"DocumentHouse$Stages", "openDocument", "()I"⟩, 20) := ⟨⟨by decide +kernel, by decide +kernel⟩, List.mem_of_getElem? (i := 205) (by decide +kernel), List.mem_of_getElem? (i := 1413) (by decide +kernel), List.mem_of_getElem? (i := 1414) (by decide +kernel)⟩
theorem lw_p130 : lw_okq (⟨"DocumentHouse$Stages", "valueOf", "(II)I"⟩, 20) := ⟨⟨by decide +kernel, by decide +kernel⟩, List.mem_of_getElem? (i := 205) (by decide +kernel), List.mem_of_getElem? (i := 1421) (by decide +kernel), List.mem_of_getElem? (i := 1422) (by decide +kernel)⟩
theorem lw_p131 : lw_okq (⟨"DocumentHouse$Stages", "writeRow", "(III)V"⟩, 20) := ⟨⟨by decide +kernel, by decide +kernel⟩, List.mem_of_getElem? (i := 205) (by decide +kernel), List.mem_of_getElem? (i := 1425) (by decide +kernel), List.mem_of_getElem? (i := 1426) (by decide +kernel)⟩
theorem lw_p132 : lw_okq (⟨"DocumentHouse$Stages", "closeDocument", "(I)V"⟩, 20) := ⟨⟨by decide +kernel, by decide +kernel⟩, List.mem_of_getElem? (i := 205) (by decide +kernel), List.mem_of_getElem? (i := 1434) (by decide +kernel), List.mem_of_getElem? (i := 1435) (by decide +kernel)⟩
theorem lw_p133 : lw_okq (⟨"DocumentHouse$Stages", "finishDocument", "(I)V"⟩, 20) := ⟨⟨by decide +kernel, by decide +kernel⟩, List.mem_of_getElem? (i := 205) (by decide +kernel), List.mem_of_getElem? (i := 1438) (by decide +kernel), List.mem_of_getElem? (i := 1439) (by decide +kernel)⟩
theorem lw_p134 : lw_okq (⟨"DocumentHouse$Stages", "endFresh", "()I"⟩, 20) := ⟨⟨by decide +kernel, by decide +kernel⟩, List.mem_of_getElem? (i := 205) (by decide +kernel), List.mem_of_getElem? (i := 1444) (by decide +kernel), List.mem_of_getElem? (i := 1445) (by decide +kernel)⟩
theorem lw_p135 : lw_okq (⟨"DocumentHouse$Stages", "unwind", "(I)I"⟩, 20) := ⟨⟨by decide +kernel, by decide +kernel⟩, List.mem_of_getElem? (i := 205) (by decide +kernel), List.mem_of_getElem? (i := 1448) (by decide +kernel), List.mem_of_getElem? (i := 1449) (by decide +kernel)⟩
theorem lw_p136 : lw_okq (⟨"DocumentHouse$Stages", "unwindItem", "(III)V"⟩, 20) := ⟨⟨by decide +kernel, by decide +kernel⟩, List.mem_of_getElem? (i := 205) (by decide +kernel), List.mem_of_getElem? (i := 1453) (by decide +kernel), List.mem_of_getElem? (i := 1454) (by decide +kernel)⟩
theorem lw_p137 : lw_okq (⟨"DocumentHouse$Stages", "group", "(I)I"⟩, 20) := ⟨⟨by decide +kernel, by decide +kernel⟩, List.mem_of_getElem? (i := 205) (by decide +kernel), List.mem_of_getElem? (i := 1458) (by decide +kernel), List.mem_of_getElem? (i := 1459) (by decide +kernel)⟩
theorem lw_p138 : lw_okq (⟨"DocumentHouse$Stages", "wrongInGroup", "(I)I"⟩, 20) := ⟨⟨by decide +kernel, by decide +kernel⟩, List.mem_of_getElem? (i := 205) (by decide +kernel), List.mem_of_getElem? (i := 1462) (by decide +kernel), List.mem_of_getElem? (i := 1463) (by decide +kernel)⟩
theorem lw_p139 : lw_okq (⟨"DocumentHouse$Stages", "writeGathered", "(II)V"⟩, 20) := ⟨⟨by decide +kernel, by decide +kernel⟩, List.mem_of_getElem? (i := 205) (by decide +kernel), List.mem_of_getElem? (i := 1480) (by decide +kernel), List.mem_of_getElem? (i := 1481) (by decide +kernel)⟩
theorem lw_p140 : lw_okq (⟨"DocumentHouse$Stages", "sum", "(I)J"⟩, 20) := ⟨⟨by decide +kernel, by decide +kernel⟩, List.mem_of_getElem? (i := 205) (by decide +kernel), List.mem_of_getElem? (i := 1484) (by decide +kernel), List.mem_of_getElem? (i := 1485) (by decide +kernel)⟩
theorem lw_p141 : lw_okq (⟨"DocumentHouse$Stages", "writeValues", "(IZ)V"⟩, 20) := ⟨⟨by decide +kernel, by decide +kernel⟩, List.mem_of_getElem? (i := 205) (by decide +kernel), List.mem_of_getElem? (i := 1492) (by decide +kernel), List.mem_of_getElem? (i := 1493) (by decide +kernel)⟩
theorem lw_p142 : lw_okq (⟨"DocumentHouse$Stages", "extreme", "(II)I"⟩, 20) := ⟨⟨by decide +kernel, by decide +kernel⟩, List.mem_of_getElem? (i := 205) (by decide +kernel), List.mem_of_getElem? (i := 1497) (by decide +kernel), List.mem_of_getElem? (i := 1498) (by decide +kernel)⟩
theorem lw_p143 : lw_okq (⟨"DocumentHouse$Stages", "sort", "(I)I"⟩, 20) := ⟨⟨by decide +kernel, by decide +kernel⟩, List.mem_of_getElem? (i := 205) (by decide +kernel), List.mem_of_getElem? (i := 1501) (by decide +kernel), List.mem_of_getElem? (i := 1502) (by decide +kernel)⟩
def lw_privs_9 : List (MethodName × Nat) := [(⟨"DocumentHouse$Stages", "beginFresh", "()V"⟩, 20), (⟨"DocumentHouse$Stages", "openDocument", "()I"⟩, 20), (⟨"DocumentHouse$Stages", "valueOf", "(II)I"⟩, 20), (⟨"DocumentHouse$Stages", "writeRow", "(III)V"⟩, 20), (⟨"DocumentHouse$Stages", "closeDocument", "(I)V"⟩, 20), (⟨"DocumentHouse$Stages", "finishDocument", "(I)V"⟩, 20), (⟨"DocumentHouse$Stages", "endFresh", "()I"⟩, 20), (⟨"DocumentHouse$Stages", "unwind", "(I)I"⟩, 20), (⟨"DocumentHouse$Stages", "unwindItem", "(III)V"⟩, 20), (⟨"DocumentHouse$Stages", "group", "(I)I"⟩, 20), (⟨"DocumentHouse$Stages", "wrongInGroup", "(I)I"⟩, 20), (⟨"DocumentHouse$Stages", "writeGathered", "(II)V"⟩, 20), (⟨"DocumentHouse$Stages", "sum", "(I)J"⟩, 20), (⟨"DocumentHouse$Stages", "writeValues", "(IZ)V"⟩, 20), (⟨"DocumentHouse$Stages", "extreme", "(II)I"⟩, 20), (⟨"DocumentHouse$Stages", "sort", "(I)I"⟩, 20)]
theorem lw_r9 : ∀ q ∈ lw_privs_9, lw_okq q := List.forall_mem_cons.mpr ⟨lw_p128, List.forall_mem_cons.mpr ⟨lw_p129, List.forall_mem_cons.mpr ⟨lw_p130, List.forall_mem_cons.mpr ⟨lw_p131, List.forall_mem_cons.mpr ⟨lw_p132, List.forall_mem_cons.mpr ⟨lw_p133, List.forall_mem_cons.mpr ⟨lw_p134, List.forall_mem_cons.mpr ⟨lw_p135, List.forall_mem_cons.mpr ⟨lw_p136, List.forall_mem_cons.mpr ⟨lw_p137, List.forall_mem_cons.mpr ⟨lw_p138, List.forall_mem_cons.mpr ⟨lw_p139, List.forall_mem_cons.mpr ⟨lw_p140, List.forall_mem_cons.mpr ⟨lw_p141, List.forall_mem_cons.mpr ⟨lw_p142, List.forall_mem_cons.mpr ⟨lw_p143, fun _ h => absurd h List.not_mem_nil⟩⟩⟩⟩⟩⟩⟩⟩⟩⟩⟩⟩⟩⟩⟩⟩
theorem lw_p144 : lw_okq (⟨"DocumentHouse$Stages", "wrongInSort", "(I)I"⟩, 20) := ⟨⟨by decide +kernel, by decide +kernel⟩, List.mem_of_getElem? (i := 205) (by decide +kernel), List.mem_of_getElem? (i := 1505) (by decide +kernel), List.mem_of_getElem? (i := 1506) (by decide +kernel)⟩
theorem lw_p145 : lw_okq (⟨"DocumentHouse$Stages", "sortKey", "(II)I"⟩, 20) := ⟨⟨by decide +kernel, by decide +kernel⟩, List.mem_of_getElem? (i := 205) (by decide +kernel), List.mem_of_getElem? (i := 1512) (by decide +kernel), List.mem_of_getElem? (i := 1513) (by decide +kernel)⟩
theorem lw_p146 : lw_okq (⟨"DocumentHouse$Room", "addItems", "(II)V"⟩, 3) := ⟨⟨by decide +kernel, by decide +kernel⟩, List.mem_of_getElem? (i := 32) (by decide +kernel), List.mem_of_getElem? (i := 1517) (by decide +kernel), List.mem_of_getElem? (i := 1518) (by decide +kernel)⟩
theorem lw_p147 : lw_okq (⟨"DocumentHouse$Room", "put", "(II)V"⟩, 3) := ⟨⟨by decide +kernel, by decide +kernel⟩, List.mem_of_getElem? (i := 32) (by decide +kernel), List.mem_of_getElem? (i := 1523) (by decide +kernel), List.mem_of_getElem? (i := 1524) (by decide +kernel)⟩
theorem lw_p148 : lw_okq (⟨"DocumentHouse$Stages", "compareSorted", "(III)I"⟩, 20) := ⟨⟨by decide +kernel, by decide +kernel⟩, List.mem_of_getElem? (i := 205) (by decide +kernel), List.mem_of_getElem? (i := 1528) (by decide +kernel), List.mem_of_getElem? (i := 1529) (by decide +kernel)⟩
theorem lw_p149 : lw_okq (⟨"DocumentHouse$Stages", "skip", "(I)I"⟩, 20) := ⟨⟨by decide +kernel, by decide +kernel⟩, List.mem_of_getElem? (i := 205) (by decide +kernel), List.mem_of_getElem? (i := 1532) (by decide +kernel), List.mem_of_getElem? (i := 1533) (by decide +kernel)⟩
theorem lw_p150 : lw_okq (⟨"DocumentHouse$Stages", "limit", "(I)I"⟩, 20) := ⟨⟨by decide +kernel, by decide +kernel⟩, List.mem_of_getElem? (i := 205) (by decide +kernel), List.mem_of_getElem? (i := 1539) (by decide +kernel), List.mem_of_getElem? (i := 1540) (by decide +kernel)⟩
theorem lw_p151 : lw_okq (⟨"DocumentHouse$Stages", "lookup", "(I)I"⟩, 20) := ⟨⟨by decide +kernel, by decide +kernel⟩, List.mem_of_getElem? (i := 205) (by decide +kernel), List.mem_of_getElem? (i := 1543) (by decide +kernel), List.mem_of_getElem? (i := 1544) (by decide +kernel)⟩
theorem lw_p152 : lw_okq (⟨"DocumentHouse$Stages", "wrongInLookup", "(IIII)I"⟩, 20) := ⟨⟨by decide +kernel, by decide +kernel⟩, List.mem_of_getElem? (i := 205) (by decide +kernel), List.mem_of_getElem? (i := 1547) (by decide +kernel), List.mem_of_getElem? (i := 1548) (by decide +kernel)⟩
theorem lw_p153 : lw_okq (⟨"DocumentHouse$Stages", "writeFound", "(I)V"⟩, 20) := ⟨⟨by decide +kernel, by decide +kernel⟩, List.mem_of_getElem? (i := 205) (by decide +kernel), List.mem_of_getElem? (i := 1554) (by decide +kernel), List.mem_of_getElem? (i := 1555) (by decide +kernel)⟩
theorem lw_p154 : lw_okq (⟨"DocumentHouse$Stages", "someSame", "(II)Z"⟩, 20) := ⟨⟨by decide +kernel, by decide +kernel⟩, List.mem_of_getElem? (i := 205) (by decide +kernel), List.mem_of_getElem? (i := 1558) (by decide +kernel), List.mem_of_getElem? (i := 1559) (by decide +kernel)⟩
theorem lw_p155 : lw_okq (⟨"DocumentHouse", "explain", "()V"⟩, 19) := ⟨⟨by decide +kernel, by decide +kernel⟩, List.mem_of_getElem? (i := 24) (by decide +kernel), List.mem_of_getElem? (i := 1562) (by decide +kernel), List.mem_of_getElem? (i := 1563) (by decide +kernel)⟩
theorem lw_p156 : lw_okq (⟨"DocumentHouse$Bounds", "bind", "(ILDocumentHouse$Path;ZI)Z"⟩, 6) := ⟨⟨by decide +kernel, by decide +kernel⟩, List.mem_of_getElem? (i := 282) (by decide +kernel), List.mem_of_getElem? (i := 1566) (by decide +kernel), List.mem_of_getElem? (i := 1567) (by decide +kernel)⟩
theorem lw_p157 : lw_okq (⟨"DocumentHouse$Bounds", "collect", "(ILDocumentHouse$Path;I)V"⟩, 6) := ⟨⟨by decide +kernel, by decide +kernel⟩, List.mem_of_getElem? (i := 282) (by decide +kernel), List.mem_of_getElem? (i := 1570) (by decide +kernel), List.mem_of_getElem? (i := 1571) (by decide +kernel)⟩
theorem lw_p158 : lw_okq (⟨"DocumentHouse$Path", "isNameOf", "([BI)Z"⟩, 5) := ⟨⟨by decide +kernel, by decide +kernel⟩, List.mem_of_getElem? (i := 110) (by decide +kernel), List.mem_of_getElem? (i := 1579) (by decide +kernel), List.mem_of_getElem? (i := 1580) (by decide +kernel)⟩
theorem lw_p159 : lw_okq (⟨"DocumentHouse$Bounds", "bindSame", "(II)Z"⟩, 6) := ⟨⟨by decide +kernel, by decide +kernel⟩, List.mem_of_getElem? (i := 282) (by decide +kernel), List.mem_of_getElem? (i := 1586) (by decide +kernel), List.mem_of_getElem? (i := 1587) (by decide +kernel)⟩
def lw_privs_10 : List (MethodName × Nat) := [(⟨"DocumentHouse$Stages", "wrongInSort", "(I)I"⟩, 20), (⟨"DocumentHouse$Stages", "sortKey", "(II)I"⟩, 20), (⟨"DocumentHouse$Room", "addItems", "(II)V"⟩, 3), (⟨"DocumentHouse$Room", "put", "(II)V"⟩, 3), (⟨"DocumentHouse$Stages", "compareSorted", "(III)I"⟩, 20), (⟨"DocumentHouse$Stages", "skip", "(I)I"⟩, 20), (⟨"DocumentHouse$Stages", "limit", "(I)I"⟩, 20), (⟨"DocumentHouse$Stages", "lookup", "(I)I"⟩, 20), (⟨"DocumentHouse$Stages", "wrongInLookup", "(IIII)I"⟩, 20), (⟨"DocumentHouse$Stages", "writeFound", "(I)V"⟩, 20), (⟨"DocumentHouse$Stages", "someSame", "(II)Z"⟩, 20), (⟨"DocumentHouse", "explain", "()V"⟩, 19), (⟨"DocumentHouse$Bounds", "bind", "(ILDocumentHouse$Path;ZI)Z"⟩, 6), (⟨"DocumentHouse$Bounds", "collect", "(ILDocumentHouse$Path;I)V"⟩, 6), (⟨"DocumentHouse$Path", "isNameOf", "([BI)Z"⟩, 5), (⟨"DocumentHouse$Bounds", "bindSame", "(II)Z"⟩, 6)]
theorem lw_r10 : ∀ q ∈ lw_privs_10, lw_okq q := List.forall_mem_cons.mpr ⟨lw_p144, List.forall_mem_cons.mpr ⟨lw_p145, List.forall_mem_cons.mpr ⟨lw_p146, List.forall_mem_cons.mpr ⟨lw_p147, List.forall_mem_cons.mpr ⟨lw_p148, List.forall_mem_cons.mpr ⟨lw_p149, List.forall_mem_cons.mpr ⟨lw_p150, List.forall_mem_cons.mpr ⟨lw_p151, List.forall_mem_cons.mpr ⟨lw_p152, List.forall_mem_cons.mpr ⟨lw_p153, List.forall_mem_cons.mpr ⟨lw_p154, List.forall_mem_cons.mpr ⟨lw_p155, List.forall_mem_cons.mpr ⟨lw_p156, List.forall_mem_cons.mpr ⟨lw_p157, List.forall_mem_cons.mpr ⟨lw_p158, List.forall_mem_cons.mpr ⟨lw_p159, fun _ h => absurd h List.not_mem_nil⟩⟩⟩⟩⟩⟩⟩⟩⟩⟩⟩⟩⟩⟩⟩⟩
theorem lw_p160 : lw_okq (⟨"DocumentHouse$Bounds", "bindOne", "(II)Z"⟩, 6) := ⟨⟨by decide +kernel, by decide +kernel⟩, List.mem_of_getElem? (i := 282) (by decide +kernel), List.mem_of_getElem? (i := 1592) (by decide +kernel), List.mem_of_getElem? (i := 1593) (by decide +kernel)⟩
theorem lw_p161 : lw_okq (⟨"DocumentHouse$Bounds", "bindSimple", "(III)Z"⟩, 6) := ⟨⟨by decide +kernel, by decide +kernel⟩, List.mem_of_getElem? (i := 282) (by decide +kernel), List.mem_of_getElem? (i := 1596) (by decide +kernel), List.mem_of_getElem? (i := 1597) (by decide +kernel)⟩
theorem lw_p162 : lw_okq (⟨"DocumentHouse$Bounds", "addPoint", "(II)V"⟩, 6) := ⟨⟨by decide +kernel, by decide +kernel⟩, List.mem_of_getElem? (i := 282) (by decide +kernel), List.mem_of_getElem? (i := 1600) (by decide +kernel), List.mem_of_getElem? (i := 1601) (by decide +kernel)⟩
theorem lw_p163 : lw_okq (⟨"DocumentHouse$Bounds", "addTo", "(IIIII)V"⟩, 6) := ⟨⟨by decide +kernel, by decide +kernel⟩, List.mem_of_getElem? (i := 282) (by decide +kernel), List.mem_of_getElem? (i := 1605) (by decide +kernel), List.mem_of_getElem? (i := 1606) (by decide +kernel)⟩
theorem lw_p164 : lw_okq (⟨"DocumentHouse$Bounds", "bindElem", "(II)Z"⟩, 6) := ⟨⟨by decide +kernel, by decide +kernel⟩, List.mem_of_getElem? (i := 282) (by decide +kernel), List.mem_of_getElem? (i := 1611) (by decide +kernel), List.mem_of_getElem? (i := 1612) (by decide +kernel)⟩
theorem lw_p165 : lw_okq (⟨"DocumentHouse$Bounds", "meet", "(II)V"⟩, 6) := ⟨⟨by decide +kernel, by decide +kernel⟩, List.mem_of_getElem? (i := 282) (by decide +kernel), List.mem_of_getElem? (i := 1616) (by decide +kernel), List.mem_of_getElem? (i := 1617) (by decide +kernel)⟩
theorem lw_p166 : lw_okq (⟨"DocumentHouse$Bounds", "meetOne", "([II[II)V"⟩, 6) := ⟨⟨by decide +kernel, by decide +kernel⟩, List.mem_of_getElem? (i := 282) (by decide +kernel), List.mem_of_getElem? (i := 1620) (by decide +kernel), List.mem_of_getElem? (i := 1621) (by decide +kernel)⟩
theorem lw_p167 : lw_okq (⟨"DocumentHouse$Bounds", "copy", "(II)V"⟩, 6) := ⟨⟨by decide +kernel, by decide +kernel⟩, List.mem_of_getElem? (i := 282) (by decide +kernel), List.mem_of_getElem? (i := 1626) (by decide +kernel), List.mem_of_getElem? (i := 1627) (by decide +kernel)⟩
theorem lw_p168 : lw_okq (⟨"DocumentHouse$Bounds", "rankBy", "(ZZ)V"⟩, 6) := ⟨⟨by decide +kernel, by decide +kernel⟩, List.mem_of_getElem? (i := 282) (by decide +kernel), List.mem_of_getElem? (i := 1631) (by decide +kernel), List.mem_of_getElem? (i := 1632) (by decide +kernel)⟩
theorem lw_p169 : lw_okq (⟨"DocumentHouse$Bounds", "isPoints", "(I)Z"⟩, 6) := ⟨⟨by decide +kernel, by decide +kernel⟩, List.mem_of_getElem? (i := 282) (by decide +kernel), List.mem_of_getElem? (i := 1635) (by decide +kernel), List.mem_of_getElem? (i := 1636) (by decide +kernel)⟩
theorem lw_p170 : lw_okq (⟨"DocumentHouse$Bounds", "looksAt", "(LDocumentHouse$Index;LDocumentHouse$Shelf;)I"⟩, 6) := ⟨⟨by decide +kernel, by decide +kernel⟩, List.mem_of_getElem? (i := 282) (by decide +kernel), List.mem_of_getElem? (i := 1639) (by decide +kernel), List.mem_of_getElem? (i := 1640) (by decide +kernel)⟩
theorem lw_p171 : lw_okq (⟨"DocumentHouse$Bounds", "someIn", "(I[II)Z"⟩, 6) := ⟨⟨by decide +kernel, by decide +kernel⟩, List.mem_of_getElem? (i := 282) (by decide +kernel), List.mem_of_getElem? (i := 1644) (by decide +kernel), List.mem_of_getElem? (i := 1645) (by decide +kernel)⟩
theorem lw_p172 : lw_okq (⟨"DocumentHouse$Bounds", "isIn", "([III)Z"⟩, 6) := ⟨⟨by decide +kernel, by decide +kernel⟩, List.mem_of_getElem? (i := 282) (by decide +kernel), List.mem_of_getElem? (i := 1648) (by decide +kernel), List.mem_of_getElem? (i := 1649) (by decide +kernel)⟩
theorem lw_p173 : lw_okq (⟨"DocumentHouse", "shape", "()V"⟩, 19) := ⟨⟨by decide +kernel, by decide +kernel⟩, List.mem_of_getElem? (i := 24) (by decide +kernel), List.mem_of_getElem? (i := 1655) (by decide +kernel), List.mem_of_getElem? (i := 1656) (by decide +kernel)⟩
theorem lw_p174 : lw_okq (⟨"DocumentHouse$Tree", "levels", "()I"⟩, 19) := ⟨⟨by decide +kernel, by decide +kernel⟩, List.mem_of_getElem? (i := 331) (by decide +kernel), List.mem_of_getElem? (i := 1661) (by decide +kernel), List.mem_of_getElem? (i := 1662) (by decide +kernel)⟩
theorem lw_p175 : lw_okq (⟨"DocumentHouse", "tellFault", "()V"⟩, 19) := ⟨⟨by decide +kernel, by decide +kernel⟩, List.mem_of_getElem? (i := 24) (by decide +kernel), List.mem_of_getElem? (i := 1669) (by decide +kernel), List.mem_of_getElem? (i := 1670) (by decide +kernel)⟩
def lw_privs_11 : List (MethodName × Nat) := [(⟨"DocumentHouse$Bounds", "bindOne", "(II)Z"⟩, 6), (⟨"DocumentHouse$Bounds", "bindSimple", "(III)Z"⟩, 6), (⟨"DocumentHouse$Bounds", "addPoint", "(II)V"⟩, 6), (⟨"DocumentHouse$Bounds", "addTo", "(IIIII)V"⟩, 6), (⟨"DocumentHouse$Bounds", "bindElem", "(II)Z"⟩, 6), (⟨"DocumentHouse$Bounds", "meet", "(II)V"⟩, 6), (⟨"DocumentHouse$Bounds", "meetOne", "([II[II)V"⟩, 6), (⟨"DocumentHouse$Bounds", "copy", "(II)V"⟩, 6), (⟨"DocumentHouse$Bounds", "rankBy", "(ZZ)V"⟩, 6), (⟨"DocumentHouse$Bounds", "isPoints", "(I)Z"⟩, 6), (⟨"DocumentHouse$Bounds", "looksAt", "(LDocumentHouse$Index;LDocumentHouse$Shelf;)I"⟩, 6), (⟨"DocumentHouse$Bounds", "someIn", "(I[II)Z"⟩, 6), (⟨"DocumentHouse$Bounds", "isIn", "([III)Z"⟩, 6), (⟨"DocumentHouse", "shape", "()V"⟩, 19), (⟨"DocumentHouse$Tree", "levels", "()I"⟩, 19), (⟨"DocumentHouse", "tellFault", "()V"⟩, 19)]
theorem lw_r11 : ∀ q ∈ lw_privs_11, lw_okq q := List.forall_mem_cons.mpr ⟨lw_p160, List.forall_mem_cons.mpr ⟨lw_p161, List.forall_mem_cons.mpr ⟨lw_p162, List.forall_mem_cons.mpr ⟨lw_p163, List.forall_mem_cons.mpr ⟨lw_p164, List.forall_mem_cons.mpr ⟨lw_p165, List.forall_mem_cons.mpr ⟨lw_p166, List.forall_mem_cons.mpr ⟨lw_p167, List.forall_mem_cons.mpr ⟨lw_p168, List.forall_mem_cons.mpr ⟨lw_p169, List.forall_mem_cons.mpr ⟨lw_p170, List.forall_mem_cons.mpr ⟨lw_p171, List.forall_mem_cons.mpr ⟨lw_p172, List.forall_mem_cons.mpr ⟨lw_p173, List.forall_mem_cons.mpr ⟨lw_p174, List.forall_mem_cons.mpr ⟨lw_p175, fun _ h => absurd h List.not_mem_nil⟩⟩⟩⟩⟩⟩⟩⟩⟩⟩⟩⟩⟩⟩⟩⟩
theorem lw_p176 : lw_okq (⟨"DocumentHouse$Shelf", "indexCount", "()I"⟩, 10) := ⟨⟨by decide +kernel, by decide +kernel⟩, List.mem_of_getElem? (i := 313) (by decide +kernel), List.mem_of_getElem? (i := 1683) (by decide +kernel), List.mem_of_getElem? (i := 1684) (by decide +kernel)⟩
theorem lw_p177 : lw_okq (⟨"DocumentHouse", "standsOn", "(II)Z"⟩, 19) := ⟨⟨by decide +kernel, by decide +kernel⟩, List.mem_of_getElem? (i := 24) (by decide +kernel), List.mem_of_getElem? (i := 1691) (by decide +kernel), List.mem_of_getElem? (i := 1692) (by decide +kernel)⟩
theorem lw_p178 : lw_okq (⟨"DocumentHouseModel", "dropTree", "(I)V"⟩, 78) := ⟨⟨by decide +kernel, by decide +kernel⟩, List.mem_of_getElem? (i := 1703) (by decide +kernel), List.mem_of_getElem? (i := 1713) (by decide +kernel), List.mem_of_getElem? (i := 1714) (by decide +kernel)⟩
theorem lw_p179 : lw_okq (⟨"DocumentHouseModel", "newNode", "(IZ)I"⟩, 78) := ⟨⟨by decide +kernel, by decide +kernel⟩, List.mem_of_getElem? (i := 1703) (by decide +kernel), List.mem_of_getElem? (i := 1717) (by decide +kernel), List.mem_of_getElem? (i := 1718) (by decide +kernel)⟩
theorem lw_p180 : lw_okq (⟨"DocumentHouseModel", "setSize", "(III)V"⟩, 78) := ⟨⟨by decide +kernel, by decide +kernel⟩, List.mem_of_getElem? (i := 1703) (by decide +kernel), List.mem_of_getElem? (i := 1721) (by decide +kernel), List.mem_of_getElem? (i := 1722) (by decide +kernel)⟩
theorem lw_p181 : lw_okq (⟨"DocumentHouseModel", "readAll", "(I)Z"⟩, 78) := ⟨⟨by decide +kernel, by decide +kernel⟩, List.mem_of_getElem? (i := 1703) (by decide +kernel), List.mem_of_getElem? (i := 1968) (by decide +kernel), List.mem_of_getElem? (i := 1969) (by decide +kernel)⟩
theorem lw_p182 : lw_okq (⟨"DocumentHouseModel", "fails", "(II)Z"⟩, 78) := ⟨⟨by decide +kernel, by decide +kernel⟩, List.mem_of_getElem? (i := 1703) (by decide +kernel), List.mem_of_getElem? (i := 1972) (by decide +kernel), List.mem_of_getElem? (i := 1973) (by decide +kernel)⟩
theorem lw_p183 : lw_okq (⟨"DocumentHouseModel", "int4", "(I)I"⟩, 78) := ⟨⟨by decide +kernel, by decide +kernel⟩, List.mem_of_getElem? (i := 1703) (by decide +kernel), List.mem_of_getElem? (i := 1976) (by decide +kernel), List.mem_of_getElem? (i := 1977) (by decide +kernel)⟩
theorem lw_p184 : lw_okq (⟨"DocumentHouseModel", "at", "(I)I"⟩, 78) := ⟨⟨by decide +kernel, by decide +kernel⟩, List.mem_of_getElem? (i := 1703) (by decide +kernel), List.mem_of_getElem? (i := 1980) (by decide +kernel), List.mem_of_getElem? (i := 1981) (by decide +kernel)⟩
theorem lw_p185 : lw_okq (⟨"DocumentHouseModel", "readElements", "(IZI)Z"⟩, 78) := ⟨⟨by decide +kernel, by decide +kernel⟩, List.mem_of_getElem? (i := 1703) (by decide +kernel), List.mem_of_getElem? (i := 1986) (by decide +kernel), List.mem_of_getElem? (i := 1987) (by decide +kernel)⟩
theorem lw_p186 : lw_okq (⟨"DocumentHouseModel", "last", "(I)I"⟩, 78) := ⟨⟨by decide +kernel, by decide +kernel⟩, List.mem_of_getElem? (i := 1703) (by decide +kernel), List.mem_of_getElem? (i := 1990) (by decide +kernel), List.mem_of_getElem? (i := 1991) (by decide +kernel)⟩
theorem lw_p187 : lw_okq (⟨"DocumentHouseModel", "isRight", "(II)Z"⟩, 78) := ⟨⟨by decide +kernel, by decide +kernel⟩, List.mem_of_getElem? (i := 1703) (by decide +kernel), List.mem_of_getElem? (i := 2000) (by decide +kernel), List.mem_of_getElem? (i := 2001) (by decide +kernel)⟩
theorem lw_p188 : lw_okq (⟨"DocumentHouseModel", "character", "(II)I"⟩, 78) := ⟨⟨by decide +kernel, by decide +kernel⟩, List.mem_of_getElem? (i := 1703) (by decide +kernel), List.mem_of_getElem? (i := 2004) (by decide +kernel), List.mem_of_getElem? (i := 2005) (by decide +kernel)⟩
theorem lw_p189 : lw_okq (⟨"DocumentHouseModel", "isDigits", "(III)Z"⟩, 78) := ⟨⟨by decide +kernel, by decide +kernel⟩, List.mem_of_getElem? (i := 1703) (by decide +kernel), List.mem_of_getElem? (i := 2012) (by decide +kernel), List.mem_of_getElem? (i := 2013) (by decide +kernel)⟩
theorem lw_p190 : lw_okq (⟨"DocumentHouseModel", "isThere", "(IIII)Z"⟩, 78) := ⟨⟨by decide +kernel, by decide +kernel⟩, List.mem_of_getElem? (i := 1703) (by decide +kernel), List.mem_of_getElem? (i := 2016) (by decide +kernel), List.mem_of_getElem? (i := 2017) (by decide +kernel)⟩
theorem lw_p191 : lw_okq (⟨"DocumentHouseModel", "nameEnd", "(I)I"⟩, 78) := ⟨⟨by decide +kernel, by decide +kernel⟩, List.mem_of_getElem? (i := 1703) (by decide +kernel), List.mem_of_getElem? (i := 2020) (by decide +kernel), List.mem_of_getElem? (i := 2021) (by decide +kernel)⟩
def lw_privs_12 : List (MethodName × Nat) := [(⟨"DocumentHouse$Shelf", "indexCount", "()I"⟩, 10), (⟨"DocumentHouse", "standsOn", "(II)Z"⟩, 19), (⟨"DocumentHouseModel", "dropTree", "(I)V"⟩, 78), (⟨"DocumentHouseModel", "newNode", "(IZ)I"⟩, 78), (⟨"DocumentHouseModel", "setSize", "(III)V"⟩, 78), (⟨"DocumentHouseModel", "readAll", "(I)Z"⟩, 78), (⟨"DocumentHouseModel", "fails", "(II)Z"⟩, 78), (⟨"DocumentHouseModel", "int4", "(I)I"⟩, 78), (⟨"DocumentHouseModel", "at", "(I)I"⟩, 78), (⟨"DocumentHouseModel", "readElements", "(IZI)Z"⟩, 78), (⟨"DocumentHouseModel", "last", "(I)I"⟩, 78), (⟨"DocumentHouseModel", "isRight", "(II)Z"⟩, 78), (⟨"DocumentHouseModel", "character", "(II)I"⟩, 78), (⟨"DocumentHouseModel", "isDigits", "(III)Z"⟩, 78), (⟨"DocumentHouseModel", "isThere", "(IIII)Z"⟩, 78), (⟨"DocumentHouseModel", "nameEnd", "(I)I"⟩, 78)]
theorem lw_r12 : ∀ q ∈ lw_privs_12, lw_okq q := List.forall_mem_cons.mpr ⟨lw_p176, List.forall_mem_cons.mpr ⟨lw_p177, List.forall_mem_cons.mpr ⟨lw_p178, List.forall_mem_cons.mpr ⟨lw_p179, List.forall_mem_cons.mpr ⟨lw_p180, List.forall_mem_cons.mpr ⟨lw_p181, List.forall_mem_cons.mpr ⟨lw_p182, List.forall_mem_cons.mpr ⟨lw_p183, List.forall_mem_cons.mpr ⟨lw_p184, List.forall_mem_cons.mpr ⟨lw_p185, List.forall_mem_cons.mpr ⟨lw_p186, List.forall_mem_cons.mpr ⟨lw_p187, List.forall_mem_cons.mpr ⟨lw_p188, List.forall_mem_cons.mpr ⟨lw_p189, List.forall_mem_cons.mpr ⟨lw_p190, List.forall_mem_cons.mpr ⟨lw_p191, fun _ h => absurd h List.not_mem_nil⟩⟩⟩⟩⟩⟩⟩⟩⟩⟩⟩⟩⟩⟩⟩⟩
theorem lw_p192 : lw_okq (⟨"DocumentHouseModel", "isSameBytes", "(IIII)Z"⟩, 78) := ⟨⟨by decide +kernel, by decide +kernel⟩, List.mem_of_getElem? (i := 1703) (by decide +kernel), List.mem_of_getElem? (i := 2024) (by decide +kernel), List.mem_of_getElem? (i := 2025) (by decide +kernel)⟩
theorem lw_p193 : lw_okq (⟨"DocumentHouseModel", "behind", "(I)I"⟩, 78) := ⟨⟨by decide +kernel, by decide +kernel⟩, List.mem_of_getElem? (i := 1703) (by decide +kernel), List.mem_of_getElem? (i := 2028) (by decide +kernel), List.mem_of_getElem? (i := 2029) (by decide +kernel)⟩
theorem lw_p194 : lw_okq (⟨"DocumentHouseModel", "value", "(I)I"⟩, 78) := ⟨⟨by decide +kernel, by decide +kernel⟩, List.mem_of_getElem? (i := 1703) (by decide +kernel), List.mem_of_getElem? (i := 2032) (by decide +kernel), List.mem_of_getElem? (i := 2033) (by decide +kernel)⟩
theorem lw_p195 : lw_okq (⟨"DocumentHouseModel", "lengthOf", "(II)I"⟩, 78) := ⟨⟨by decide +kernel, by decide +kernel⟩, List.mem_of_getElem? (i := 1703) (by decide +kernel), List.mem_of_getElem? (i := 2036) (by decide +kernel), List.mem_of_getElem? (i := 2037) (by decide +kernel)⟩
theorem lw_p196 : lw_okq (⟨"DocumentHouseModel", "readValue", "(IIII)Z"⟩, 78) := ⟨⟨by decide +kernel, by decide +kernel⟩, List.mem_of_getElem? (i := 1703) (by decide +kernel), List.mem_of_getElem? (i := 2040) (by decide +kernel), List.mem_of_getElem? (i := 2041) (by decide +kernel)⟩
theorem lw_p197 : lw_okq (⟨"DocumentHouseModel", "readContainer", "(IIZI)Z"⟩, 78) := ⟨⟨by decide +kernel, by decide +kernel⟩, List.mem_of_getElem? (i := 1703) (by decide +kernel), List.mem_of_getElem? (i := 2044) (by decide +kernel), List.mem_of_getElem? (i := 2045) (by decide +kernel)⟩
theorem lw_p198 : lw_okq (⟨"DocumentHouseModel", "isRequest", "()Z"⟩, 78) := ⟨⟨by decide +kernel, by decide +kernel⟩, List.mem_of_getElem? (i := 1703) (by decide +kernel), List.mem_of_getElem? (i := 2049) (by decide +kernel), List.mem_of_getElem? (i := 2050) (by decide +kernel)⟩
theorem lw_p199 : lw_okq (⟨"DocumentHouseModel", "item", "(II)I"⟩, 78) := ⟨⟨by decide +kernel, by decide +kernel⟩, List.mem_of_getElem? (i := 1703) (by decide +kernel), List.mem_of_getElem? (i := 2053) (by decide +kernel), List.mem_of_getElem? (i := 2054) (by decide +kernel)⟩
theorem lw_p200 : lw_okq (⟨"DocumentHouseModel", "isNone", "(I)Z"⟩, 78) := ⟨⟨by decide +kernel, by decide +kernel⟩, List.mem_of_getElem? (i := 1703) (by decide +kernel), List.mem_of_getElem? (i := 2057) (by decide +kernel), List.mem_of_getElem? (i := 2058) (by decide +kernel)⟩
theorem lw_p201 : lw_okq (⟨"DocumentHouseModel", "refuses", "(II)Z"⟩, 78) := ⟨⟨by decide +kernel, by decide +kernel⟩, List.mem_of_getElem? (i := 1703) (by decide +kernel), List.mem_of_getElem? (i := 2061) (by decide +kernel), List.mem_of_getElem? (i := 2062) (by decide +kernel)⟩
theorem lw_p202 : lw_okq (⟨"DocumentHouseModel", "takesDocument", "(I)Z"⟩, 78) := ⟨⟨by decide +kernel, by decide +kernel⟩, List.mem_of_getElem? (i := 1703) (by decide +kernel), List.mem_of_getElem? (i := 2065) (by decide +kernel), List.mem_of_getElem? (i := 2066) (by decide +kernel)⟩
theorem lw_p203 : lw_okq (⟨"DocumentHouseModel", "isName", "(ILjava/lang/String;)Z"⟩, 78) := ⟨⟨by decide +kernel, by decide +kernel⟩, List.mem_of_getElem? (i := 1703) (by decide +kernel), List.mem_of_getElem? (i := 2070) (by decide +kernel), List.mem_of_getElem? (i := 2071) (by decide +kernel)⟩
theorem lw_p204 : lw_okq (⟨"DocumentHouseModel", "is", "(IILjava/lang/String;)Z"⟩, 78) := ⟨⟨by decide +kernel, by decide +kernel⟩, List.mem_of_getElem? (i := 1703) (by decide +kernel), List.mem_of_getElem? (i := 2074) (by decide +kernel), List.mem_of_getElem? (i := 2075) (by decide +kernel)⟩
theorem lw_p205 : lw_okq (⟨"DocumentHouseModel", "isNumber", "(I)Z"⟩, 78) := ⟨⟨by decide +kernel, by decide +kernel⟩, List.mem_of_getElem? (i := 1703) (by decide +kernel), List.mem_of_getElem? (i := 2087) (by decide +kernel), List.mem_of_getElem? (i := 2088) (by decide +kernel)⟩
theorem lw_p206 : lw_okq (⟨"DocumentHouseModel", "arePaths", "(I)Z"⟩, 78) := ⟨⟨by decide +kernel, by decide +kernel⟩, List.mem_of_getElem? (i := 1703) (by decide +kernel), List.mem_of_getElem? (i := 2093) (by decide +kernel), List.mem_of_getElem? (i := 2094) (by decide +kernel)⟩
theorem lw_p207 : lw_okq (⟨"DocumentHouseModel", "count", "(I)I"⟩, 78) := ⟨⟨by decide +kernel, by decide +kernel⟩, List.mem_of_getElem? (i := 1703) (by decide +kernel), List.mem_of_getElem? (i := 2097) (by decide +kernel), List.mem_of_getElem? (i := 2098) (by decide +kernel)⟩
def lw_privs_13 : List (MethodName × Nat) := [(⟨"DocumentHouseModel", "isSameBytes", "(IIII)Z"⟩, 78), (⟨"DocumentHouseModel", "behind", "(I)I"⟩, 78), (⟨"DocumentHouseModel", "value", "(I)I"⟩, 78), (⟨"DocumentHouseModel", "lengthOf", "(II)I"⟩, 78), (⟨"DocumentHouseModel", "readValue", "(IIII)Z"⟩, 78), (⟨"DocumentHouseModel", "readContainer", "(IIZI)Z"⟩, 78), (⟨"DocumentHouseModel", "isRequest", "()Z"⟩, 78), (⟨"DocumentHouseModel", "item", "(II)I"⟩, 78), (⟨"DocumentHouseModel", "isNone", "(I)Z"⟩, 78), (⟨"DocumentHouseModel", "refuses", "(II)Z"⟩, 78), (⟨"DocumentHouseModel", "takesDocument", "(I)Z"⟩, 78), (⟨"DocumentHouseModel", "isName", "(ILjava/lang/String;)Z"⟩, 78), (⟨"DocumentHouseModel", "is", "(IILjava/lang/String;)Z"⟩, 78), (⟨"DocumentHouseModel", "isNumber", "(I)Z"⟩, 78), (⟨"DocumentHouseModel", "arePaths", "(I)Z"⟩, 78), (⟨"DocumentHouseModel", "count", "(I)I"⟩, 78)]
theorem lw_r13 : ∀ q ∈ lw_privs_13, lw_okq q := List.forall_mem_cons.mpr ⟨lw_p192, List.forall_mem_cons.mpr ⟨lw_p193, List.forall_mem_cons.mpr ⟨lw_p194, List.forall_mem_cons.mpr ⟨lw_p195, List.forall_mem_cons.mpr ⟨lw_p196, List.forall_mem_cons.mpr ⟨lw_p197, List.forall_mem_cons.mpr ⟨lw_p198, List.forall_mem_cons.mpr ⟨lw_p199, List.forall_mem_cons.mpr ⟨lw_p200, List.forall_mem_cons.mpr ⟨lw_p201, List.forall_mem_cons.mpr ⟨lw_p202, List.forall_mem_cons.mpr ⟨lw_p203, List.forall_mem_cons.mpr ⟨lw_p204, List.forall_mem_cons.mpr ⟨lw_p205, List.forall_mem_cons.mpr ⟨lw_p206, List.forall_mem_cons.mpr ⟨lw_p207, fun _ h => absurd h List.not_mem_nil⟩⟩⟩⟩⟩⟩⟩⟩⟩⟩⟩⟩⟩⟩⟩⟩
theorem lw_p208 : lw_okq (⟨"DocumentHouseModel", "textEnd", "(I)I"⟩, 78) := ⟨⟨by decide +kernel, by decide +kernel⟩, List.mem_of_getElem? (i := 1703) (by decide +kernel), List.mem_of_getElem? (i := 2101) (by decide +kernel), List.mem_of_getElem? (i := 2102) (by decide +kernel)⟩
theorem lw_p209 : lw_okq (⟨"DocumentHouseModel", "isPlainPath", "(II)Z"⟩, 78) := ⟨⟨by decide +kernel, by decide +kernel⟩, List.mem_of_getElem? (i := 1703) (by decide +kernel), List.mem_of_getElem? (i := 2105) (by decide +kernel), List.mem_of_getElem? (i := 2106) (by decide +kernel)⟩
theorem lw_p210 : lw_okq (⟨"DocumentHouseModel", "isPath", "(II)Z"⟩, 78) := ⟨⟨by decide +kernel, by decide +kernel⟩, List.mem_of_getElem? (i := 1703) (by decide +kernel), List.mem_of_getElem? (i := 2109) (by decide +kernel), List.mem_of_getElem? (i := 2110) (by decide +kernel)⟩
theorem lw_p211 : lw_okq (⟨"DocumentHouseModel", "stepEnd", "(II)I"⟩, 78) := ⟨⟨by decide +kernel, by decide +kernel⟩, List.mem_of_getElem? (i := 1703) (by decide +kernel), List.mem_of_getElem? (i := 2113) (by decide +kernel), List.mem_of_getElem? (i := 2114) (by decide +kernel)⟩
theorem lw_p212 : lw_okq (⟨"DocumentHouseModel", "hasDollar", "(II)Z"⟩, 78) := ⟨⟨by decide +kernel, by decide +kernel⟩, List.mem_of_getElem? (i := 1703) (by decide +kernel), List.mem_of_getElem? (i := 2117) (by decide +kernel), List.mem_of_getElem? (i := 2118) (by decide +kernel)⟩
theorem lw_p213 : lw_okq (⟨"DocumentHouseModel", "isSame", "(II)Z"⟩, 78) := ⟨⟨by decide +kernel, by decide +kernel⟩, List.mem_of_getElem? (i := 1703) (by decide +kernel), List.mem_of_getElem? (i := 2121) (by decide +kernel), List.mem_of_getElem? (i := 2122) (by decide +kernel)⟩
theorem lw_p214 : lw_okq (⟨"DocumentHouseModel", "compare", "(II)I"⟩, 78) := ⟨⟨by decide +kernel, by decide +kernel⟩, List.mem_of_getElem? (i := 1703) (by decide +kernel), List.mem_of_getElem? (i := 2125) (by decide +kernel), List.mem_of_getElem? (i := 2126) (by decide +kernel)⟩
theorem lw_p215 : lw_okq (⟨"DocumentHouseModel", "classOf", "(I)I"⟩, 78) := ⟨⟨by decide +kernel, by decide +kernel⟩, List.mem_of_getElem? (i := 1703) (by decide +kernel), List.mem_of_getElem? (i := 2129) (by decide +kernel), List.mem_of_getElem? (i := 2130) (by decide +kernel)⟩
theorem lw_p216 : lw_okq (⟨"DocumentHouseModel", "number", "(I)J"⟩, 78) := ⟨⟨by decide +kernel, by decide +kernel⟩, List.mem_of_getElem? (i := 1703) (by decide +kernel), List.mem_of_getElem? (i := 2133) (by decide +kernel), List.mem_of_getElem? (i := 2134) (by decide +kernel)⟩
theorem lw_p217 : lw_okq (⟨"DocumentHouseModel", "long8", "(I)J"⟩, 78) := ⟨⟨by decide +kernel, by decide +kernel⟩, List.mem_of_getElem? (i := 1703) (by decide +kernel), List.mem_of_getElem? (i := 2137) (by decide +kernel), List.mem_of_getElem? (i := 2138) (by decide +kernel)⟩
theorem lw_p218 : lw_okq (⟨"DocumentHouseModel", "compareBytes", "(IIII)I"⟩, 78) := ⟨⟨by decide +kernel, by decide +kernel⟩, List.mem_of_getElem? (i := 1703) (by decide +kernel), List.mem_of_getElem? (i := 2141) (by decide +kernel), List.mem_of_getElem? (i := 2142) (by decide +kernel)⟩
theorem lw_p219 : lw_okq (⟨"DocumentHouseModel", "compareAll", "(IIZ)I"⟩, 78) := ⟨⟨by decide +kernel, by decide +kernel⟩, List.mem_of_getElem? (i := 1703) (by decide +kernel), List.mem_of_getElem? (i := 2145) (by decide +kernel), List.mem_of_getElem? (i := 2146) (by decide +kernel)⟩
theorem lw_p220 : lw_okq (⟨"DocumentHouseModel", "isShelf", "(I)Z"⟩, 78) := ⟨⟨by decide +kernel, by decide +kernel⟩, List.mem_of_getElem? (i := 1703) (by decide +kernel), List.mem_of_getElem? (i := 2149) (by decide +kernel), List.mem_of_getElem? (i := 2150) (by decide +kernel)⟩
theorem lw_p221 : lw_okq (⟨"DocumentHouseModel", "areDirections", "(II)Z"⟩, 78) := ⟨⟨by decide +kernel, by decide +kernel⟩, List.mem_of_getElem? (i := 1703) (by decide +kernel), List.mem_of_getElem? (i := 2155) (by decide +kernel), List.mem_of_getElem? (i := 2156) (by decide +kernel)⟩
theorem lw_p222 : lw_okq (⟨"DocumentHouseModel", "does", "()Z"⟩, 78) := ⟨⟨by decide +kernel, by decide +kernel⟩, List.mem_of_getElem? (i := 1703) (by decide +kernel), List.mem_of_getElem? (i := 2160) (by decide +kernel), List.mem_of_getElem? (i := 2161) (by decide +kernel)⟩
theorem lw_p223 : lw_okq (⟨"DocumentHouseModel", "withIndex", "(II)Z"⟩, 78) := ⟨⟨by decide +kernel, by decide +kernel⟩, List.mem_of_getElem? (i := 1703) (by decide +kernel), List.mem_of_getElem? (i := 2164) (by decide +kernel), List.mem_of_getElem? (i := 2165) (by decide +kernel)⟩
def lw_privs_14 : List (MethodName × Nat) := [(⟨"DocumentHouseModel", "textEnd", "(I)I"⟩, 78), (⟨"DocumentHouseModel", "isPlainPath", "(II)Z"⟩, 78), (⟨"DocumentHouseModel", "isPath", "(II)Z"⟩, 78), (⟨"DocumentHouseModel", "stepEnd", "(II)I"⟩, 78), (⟨"DocumentHouseModel", "hasDollar", "(II)Z"⟩, 78), (⟨"DocumentHouseModel", "isSame", "(II)Z"⟩, 78), (⟨"DocumentHouseModel", "compare", "(II)I"⟩, 78), (⟨"DocumentHouseModel", "classOf", "(I)I"⟩, 78), (⟨"DocumentHouseModel", "number", "(I)J"⟩, 78), (⟨"DocumentHouseModel", "long8", "(I)J"⟩, 78), (⟨"DocumentHouseModel", "compareBytes", "(IIII)I"⟩, 78), (⟨"DocumentHouseModel", "compareAll", "(IIZ)I"⟩, 78), (⟨"DocumentHouseModel", "isShelf", "(I)Z"⟩, 78), (⟨"DocumentHouseModel", "areDirections", "(II)Z"⟩, 78), (⟨"DocumentHouseModel", "does", "()Z"⟩, 78), (⟨"DocumentHouseModel", "withIndex", "(II)Z"⟩, 78)]
theorem lw_r14 : ∀ q ∈ lw_privs_14, lw_okq q := List.forall_mem_cons.mpr ⟨lw_p208, List.forall_mem_cons.mpr ⟨lw_p209, List.forall_mem_cons.mpr ⟨lw_p210, List.forall_mem_cons.mpr ⟨lw_p211, List.forall_mem_cons.mpr ⟨lw_p212, List.forall_mem_cons.mpr ⟨lw_p213, List.forall_mem_cons.mpr ⟨lw_p214, List.forall_mem_cons.mpr ⟨lw_p215, List.forall_mem_cons.mpr ⟨lw_p216, List.forall_mem_cons.mpr ⟨lw_p217, List.forall_mem_cons.mpr ⟨lw_p218, List.forall_mem_cons.mpr ⟨lw_p219, List.forall_mem_cons.mpr ⟨lw_p220, List.forall_mem_cons.mpr ⟨lw_p221, List.forall_mem_cons.mpr ⟨lw_p222, List.forall_mem_cons.mpr ⟨lw_p223, fun _ h => absurd h List.not_mem_nil⟩⟩⟩⟩⟩⟩⟩⟩⟩⟩⟩⟩⟩⟩⟩⟩
theorem lw_p224 : lw_okq (⟨"DocumentHouseModel", "beginAnswer", "()V"⟩, 78) := ⟨⟨by decide +kernel, by decide +kernel⟩, List.mem_of_getElem? (i := 1703) (by decide +kernel), List.mem_of_getElem? (i := 2169) (by decide +kernel), List.mem_of_getElem? (i := 2170) (by decide +kernel)⟩
theorem lw_p225 : lw_okq (⟨"DocumentHouseModel", "write", "(II)V"⟩, 78) := ⟨⟨by decide +kernel, by decide +kernel⟩, List.mem_of_getElem? (i := 1703) (by decide +kernel), List.mem_of_getElem? (i := 2175) (by decide +kernel), List.mem_of_getElem? (i := 2176) (by decide +kernel)⟩
theorem lw_p226 : lw_okq (⟨"DocumentHouseModel", "open", "()I"⟩, 78) := ⟨⟨by decide +kernel, by decide +kernel⟩, List.mem_of_getElem? (i := 1703) (by decide +kernel), List.mem_of_getElem? (i := 2179) (by decide +kernel), List.mem_of_getElem? (i := 2180) (by decide +kernel)⟩
theorem lw_p227 : lw_okq (⟨"DocumentHouseModel", "putInt", "(I)V"⟩, 78) := ⟨⟨by decide +kernel, by decide +kernel⟩, List.mem_of_getElem? (i := 1703) (by decide +kernel), List.mem_of_getElem? (i := 2183) (by decide +kernel), List.mem_of_getElem? (i := 2184) (by decide +kernel)⟩
theorem lw_p228 : lw_okq (⟨"DocumentHouseModel", "put", "(I)V"⟩, 78) := ⟨⟨by decide +kernel, by decide +kernel⟩, List.mem_of_getElem? (i := 1703) (by decide +kernel), List.mem_of_getElem? (i := 2187) (by decide +kernel), List.mem_of_getElem? (i := 2188) (by decide +kernel)⟩
theorem lw_p229 : lw_okq (⟨"DocumentHouseModel", "putTruth", "(Ljava/lang/String;Z)V"⟩, 78) := ⟨⟨by decide +kernel, by decide +kernel⟩, List.mem_of_getElem? (i := 1703) (by decide +kernel), List.mem_of_getElem? (i := 2192) (by decide +kernel), List.mem_of_getElem? (i := 2193) (by decide +kernel)⟩
theorem lw_p230 : lw_okq (⟨"DocumentHouseModel", "putWord", "(Ljava/lang/String;)V"⟩, 78) := ⟨⟨by decide +kernel, by decide +kernel⟩, List.mem_of_getElem? (i := 1703) (by decide +kernel), List.mem_of_getElem? (i := 2196) (by decide +kernel), List.mem_of_getElem? (i := 2197) (by decide +kernel)⟩
theorem lw_p231 : lw_okq (⟨"DocumentHouseModel", "putNumber", "(Ljava/lang/String;I)V"⟩, 78) := ⟨⟨by decide +kernel, by decide +kernel⟩, List.mem_of_getElem? (i := 1703) (by decide +kernel), List.mem_of_getElem? (i := 2201) (by decide +kernel), List.mem_of_getElem? (i := 2202) (by decide +kernel)⟩
theorem lw_p232 : lw_okq (⟨"DocumentHouseModel", "levels", "(I)I"⟩, 78) := ⟨⟨by decide +kernel, by decide +kernel⟩, List.mem_of_getElem? (i := 1703) (by decide +kernel), List.mem_of_getElem? (i := 2206) (by decide +kernel), List.mem_of_getElem? (i := 2207) (by decide +kernel)⟩
theorem lw_p233 : lw_okq (⟨"DocumentHouseModel", "isLeafNode", "(II)Z"⟩, 78) := ⟨⟨by decide +kernel, by decide +kernel⟩, List.mem_of_getElem? (i := 1703) (by decide +kernel), List.mem_of_getElem? (i := 2210) (by decide +kernel), List.mem_of_getElem? (i := 2211) (by decide +kernel)⟩
theorem lw_p234 : lw_okq (⟨"DocumentHouseModel", "slot", "(III)I"⟩, 78) := ⟨⟨by decide +kernel, by decide +kernel⟩, List.mem_of_getElem? (i := 1703) (by decide +kernel), List.mem_of_getElem? (i := 2214) (by decide +kernel), List.mem_of_getElem? (i := 2215) (by decide +kernel)⟩
theorem lw_p235 : lw_okq (⟨"DocumentHouseModel", "nodes", "(IZ)I"⟩, 78) := ⟨⟨by decide +kernel, by decide +kernel⟩, List.mem_of_getElem? (i := 1703) (by decide +kernel), List.mem_of_getElem? (i := 2219) (by decide +kernel), List.mem_of_getElem? (i := 2220) (by decide +kernel)⟩
theorem lw_p236 : lw_okq (⟨"DocumentHouseModel", "endAnswer", "()Z"⟩, 78) := ⟨⟨by decide +kernel, by decide +kernel⟩, List.mem_of_getElem? (i := 1703) (by decide +kernel), List.mem_of_getElem? (i := 2226) (by decide +kernel), List.mem_of_getElem? (i := 2227) (by decide +kernel)⟩
theorem lw_p237 : lw_okq (⟨"DocumentHouseModel", "close", "(I)V"⟩, 78) := ⟨⟨by decide +kernel, by decide +kernel⟩, List.mem_of_getElem? (i := 1703) (by decide +kernel), List.mem_of_getElem? (i := 2230) (by decide +kernel), List.mem_of_getElem? (i := 2231) (by decide +kernel)⟩
theorem lw_p238 : lw_okq (⟨"DocumentHouseModel", "setInt4", "(II)V"⟩, 78) := ⟨⟨by decide +kernel, by decide +kernel⟩, List.mem_of_getElem? (i := 1703) (by decide +kernel), List.mem_of_getElem? (i := 2234) (by decide +kernel), List.mem_of_getElem? (i := 2235) (by decide +kernel)⟩
theorem lw_p239 : lw_okq (⟨"DocumentHouseModel", "newIndex", "(II)Z"⟩, 78) := ⟨⟨by decide +kernel, by decide +kernel⟩, List.mem_of_getElem? (i := 1703) (by decide +kernel), List.mem_of_getElem? (i := 2238) (by decide +kernel), List.mem_of_getElem? (i := 2239) (by decide +kernel)⟩
def lw_privs_15 : List (MethodName × Nat) := [(⟨"DocumentHouseModel", "beginAnswer", "()V"⟩, 78), (⟨"DocumentHouseModel", "write", "(II)V"⟩, 78), (⟨"DocumentHouseModel", "open", "()I"⟩, 78), (⟨"DocumentHouseModel", "putInt", "(I)V"⟩, 78), (⟨"DocumentHouseModel", "put", "(I)V"⟩, 78), (⟨"DocumentHouseModel", "putTruth", "(Ljava/lang/String;Z)V"⟩, 78), (⟨"DocumentHouseModel", "putWord", "(Ljava/lang/String;)V"⟩, 78), (⟨"DocumentHouseModel", "putNumber", "(Ljava/lang/String;I)V"⟩, 78), (⟨"DocumentHouseModel", "levels", "(I)I"⟩, 78), (⟨"DocumentHouseModel", "isLeafNode", "(II)Z"⟩, 78), (⟨"DocumentHouseModel", "slot", "(III)I"⟩, 78), (⟨"DocumentHouseModel", "nodes", "(IZ)I"⟩, 78), (⟨"DocumentHouseModel", "endAnswer", "()Z"⟩, 78), (⟨"DocumentHouseModel", "close", "(I)V"⟩, 78), (⟨"DocumentHouseModel", "setInt4", "(II)V"⟩, 78), (⟨"DocumentHouseModel", "newIndex", "(II)Z"⟩, 78)]
theorem lw_r15 : ∀ q ∈ lw_privs_15, lw_okq q := List.forall_mem_cons.mpr ⟨lw_p224, List.forall_mem_cons.mpr ⟨lw_p225, List.forall_mem_cons.mpr ⟨lw_p226, List.forall_mem_cons.mpr ⟨lw_p227, List.forall_mem_cons.mpr ⟨lw_p228, List.forall_mem_cons.mpr ⟨lw_p229, List.forall_mem_cons.mpr ⟨lw_p230, List.forall_mem_cons.mpr ⟨lw_p231, List.forall_mem_cons.mpr ⟨lw_p232, List.forall_mem_cons.mpr ⟨lw_p233, List.forall_mem_cons.mpr ⟨lw_p234, List.forall_mem_cons.mpr ⟨lw_p235, List.forall_mem_cons.mpr ⟨lw_p236, List.forall_mem_cons.mpr ⟨lw_p237, List.forall_mem_cons.mpr ⟨lw_p238, List.forall_mem_cons.mpr ⟨lw_p239, fun _ h => absurd h List.not_mem_nil⟩⟩⟩⟩⟩⟩⟩⟩⟩⟩⟩⟩⟩⟩⟩⟩
theorem lw_p240 : lw_okq (⟨"DocumentHouseModel", "pathOf", "(II)I"⟩, 78) := ⟨⟨by decide +kernel, by decide +kernel⟩, List.mem_of_getElem? (i := 1703) (by decide +kernel), List.mem_of_getElem? (i := 2242) (by decide +kernel), List.mem_of_getElem? (i := 2243) (by decide +kernel)⟩
theorem lw_p241 : lw_okq (⟨"DocumentHouseModel", "copy", "(III)V"⟩, 78) := ⟨⟨by decide +kernel, by decide +kernel⟩, List.mem_of_getElem? (i := 1703) (by decide +kernel), List.mem_of_getElem? (i := 2247) (by decide +kernel), List.mem_of_getElem? (i := 2248) (by decide +kernel)⟩
theorem lw_p242 : lw_okq (⟨"DocumentHouseModel", "document", "(II)I"⟩, 78) := ⟨⟨by decide +kernel, by decide +kernel⟩, List.mem_of_getElem? (i := 1703) (by decide +kernel), List.mem_of_getElem? (i := 2251) (by decide +kernel), List.mem_of_getElem? (i := 2252) (by decide +kernel)⟩
theorem lw_p243 : lw_okq (⟨"DocumentHouseModel", "entriesOf", "(II)I"⟩, 78) := ⟨⟨by decide +kernel, by decide +kernel⟩, List.mem_of_getElem? (i := 1703) (by decide +kernel), List.mem_of_getElem? (i := 2255) (by decide +kernel), List.mem_of_getElem? (i := 2256) (by decide +kernel)⟩
theorem lw_p244 : lw_okq (⟨"DocumentHouseModel", "keys", "(III)I"⟩, 78) := ⟨⟨by decide +kernel, by decide +kernel⟩, List.mem_of_getElem? (i := 1703) (by decide +kernel), List.mem_of_getElem? (i := 2259) (by decide +kernel), List.mem_of_getElem? (i := 2260) (by decide +kernel)⟩
theorem lw_p245 : lw_okq (⟨"DocumentHouseModel", "goDocument", "(III)V"⟩, 78) := ⟨⟨by decide +kernel, by decide +kernel⟩, List.mem_of_getElem? (i := 1703) (by decide +kernel), List.mem_of_getElem? (i := 2263) (by decide +kernel), List.mem_of_getElem? (i := 2264) (by decide +kernel)⟩
theorem lw_p246 : lw_okq (⟨"DocumentHouseModel", "find", "(III)I"⟩, 78) := ⟨⟨by decide +kernel, by decide +kernel⟩, List.mem_of_getElem? (i := 1703) (by decide +kernel), List.mem_of_getElem? (i := 2267) (by decide +kernel), List.mem_of_getElem? (i := 2268) (by decide +kernel)⟩
theorem lw_p247 : lw_okq (⟨"DocumentHouseModel", "addLeaf", "(I)V"⟩, 78) := ⟨⟨by decide +kernel, by decide +kernel⟩, List.mem_of_getElem? (i := 1703) (by decide +kernel), List.mem_of_getElem? (i := 2271) (by decide +kernel), List.mem_of_getElem? (i := 2272) (by decide +kernel)⟩
theorem lw_p248 : lw_okq (⟨"DocumentHouseModel", "go", "(III)V"⟩, 78) := ⟨⟨by decide +kernel, by decide +kernel⟩, List.mem_of_getElem? (i := 1703) (by decide +kernel), List.mem_of_getElem? (i := 2275) (by decide +kernel), List.mem_of_getElem? (i := 2276) (by decide +kernel)⟩
theorem lw_p249 : lw_okq (⟨"DocumentHouseModel", "goRow", "(III)V"⟩, 78) := ⟨⟨by decide +kernel, by decide +kernel⟩, List.mem_of_getElem? (i := 1703) (by decide +kernel), List.mem_of_getElem? (i := 2279) (by decide +kernel), List.mem_of_getElem? (i := 2280) (by decide +kernel)⟩
theorem lw_p250 : lw_okq (⟨"DocumentHouseModel", "stepNumber", "(II)I"⟩, 78) := ⟨⟨by decide +kernel, by decide +kernel⟩, List.mem_of_getElem? (i := 1703) (by decide +kernel), List.mem_of_getElem? (i := 2283) (by decide +kernel), List.mem_of_getElem? (i := 2284) (by decide +kernel)⟩
theorem lw_p251 : lw_okq (⟨"DocumentHouseModel", "addKey", "(II)V"⟩, 78) := ⟨⟨by decide +kernel, by decide +kernel⟩, List.mem_of_getElem? (i := 1703) (by decide +kernel), List.mem_of_getElem? (i := 2288) (by decide +kernel), List.mem_of_getElem? (i := 2289) (by decide +kernel)⟩
theorem lw_p252 : lw_okq (⟨"DocumentHouseModel", "marks", "(II)V"⟩, 78) := ⟨⟨by decide +kernel, by decide +kernel⟩, List.mem_of_getElem? (i := 1703) (by decide +kernel), List.mem_of_getElem? (i := 2292) (by decide +kernel), List.mem_of_getElem? (i := 2293) (by decide +kernel)⟩
theorem lw_p253 : lw_okq (⟨"DocumentHouseModel", "enterAll", "(IIIZ)V"⟩, 78) := ⟨⟨by decide +kernel, by decide +kernel⟩, List.mem_of_getElem? (i := 1703) (by decide +kernel), List.mem_of_getElem? (i := 2296) (by decide +kernel), List.mem_of_getElem? (i := 2297) (by decide +kernel)⟩
theorem lw_p254 : lw_okq (⟨"DocumentHouseModel", "arrange", "(IIZ)V"⟩, 78) := ⟨⟨by decide +kernel, by decide +kernel⟩, List.mem_of_getElem? (i := 1703) (by decide +kernel), List.mem_of_getElem? (i := 2300) (by decide +kernel), List.mem_of_getElem? (i := 2301) (by decide +kernel)⟩
theorem lw_p255 : lw_okq (⟨"DocumentHouseModel", "enter", "(IIII)V"⟩, 78) := ⟨⟨by decide +kernel, by decide +kernel⟩, List.mem_of_getElem? (i := 1703) (by decide +kernel), List.mem_of_getElem? (i := 2304) (by decide +kernel), List.mem_of_getElem? (i := 2305) (by decide +kernel)⟩
def lw_privs_16 : List (MethodName × Nat) := [(⟨"DocumentHouseModel", "pathOf", "(II)I"⟩, 78), (⟨"DocumentHouseModel", "copy", "(III)V"⟩, 78), (⟨"DocumentHouseModel", "document", "(II)I"⟩, 78), (⟨"DocumentHouseModel", "entriesOf", "(II)I"⟩, 78), (⟨"DocumentHouseModel", "keys", "(III)I"⟩, 78), (⟨"DocumentHouseModel", "goDocument", "(III)V"⟩, 78), (⟨"DocumentHouseModel", "find", "(III)I"⟩, 78), (⟨"DocumentHouseModel", "addLeaf", "(I)V"⟩, 78), (⟨"DocumentHouseModel", "go", "(III)V"⟩, 78), (⟨"DocumentHouseModel", "goRow", "(III)V"⟩, 78), (⟨"DocumentHouseModel", "stepNumber", "(II)I"⟩, 78), (⟨"DocumentHouseModel", "addKey", "(II)V"⟩, 78), (⟨"DocumentHouseModel", "marks", "(II)V"⟩, 78), (⟨"DocumentHouseModel", "enterAll", "(IIIZ)V"⟩, 78), (⟨"DocumentHouseModel", "arrange", "(IIZ)V"⟩, 78), (⟨"DocumentHouseModel", "enter", "(IIII)V"⟩, 78)]
theorem lw_r16 : ∀ q ∈ lw_privs_16, lw_okq q := List.forall_mem_cons.mpr ⟨lw_p240, List.forall_mem_cons.mpr ⟨lw_p241, List.forall_mem_cons.mpr ⟨lw_p242, List.forall_mem_cons.mpr ⟨lw_p243, List.forall_mem_cons.mpr ⟨lw_p244, List.forall_mem_cons.mpr ⟨lw_p245, List.forall_mem_cons.mpr ⟨lw_p246, List.forall_mem_cons.mpr ⟨lw_p247, List.forall_mem_cons.mpr ⟨lw_p248, List.forall_mem_cons.mpr ⟨lw_p249, List.forall_mem_cons.mpr ⟨lw_p250, List.forall_mem_cons.mpr ⟨lw_p251, List.forall_mem_cons.mpr ⟨lw_p252, List.forall_mem_cons.mpr ⟨lw_p253, List.forall_mem_cons.mpr ⟨lw_p254, List.forall_mem_cons.mpr ⟨lw_p255, fun _ h => absurd h List.not_mem_nil⟩⟩⟩⟩⟩⟩⟩⟩⟩⟩⟩⟩⟩⟩⟩⟩
theorem lw_p256 : lw_okq (⟨"DocumentHouseModel", "newEntry", "(IIII)I"⟩, 78) := ⟨⟨by decide +kernel, by decide +kernel⟩, List.mem_of_getElem? (i := 1703) (by decide +kernel), List.mem_of_getElem? (i := 2308) (by decide +kernel), List.mem_of_getElem? (i := 2309) (by decide +kernel)⟩
theorem lw_p257 : lw_okq (⟨"DocumentHouseModel", "sweep", "(I)V"⟩, 78) := ⟨⟨by decide +kernel, by decide +kernel⟩, List.mem_of_getElem? (i := 1703) (by decide +kernel), List.mem_of_getElem? (i := 2312) (by decide +kernel), List.mem_of_getElem? (i := 2313) (by decide +kernel)⟩
theorem lw_p258 : lw_okq (⟨"DocumentHouseModel", "sizeOf", "(II)I"⟩, 78) := ⟨⟨by decide +kernel, by decide +kernel⟩, List.mem_of_getElem? (i := 1703) (by decide +kernel), List.mem_of_getElem? (i := 2316) (by decide +kernel), List.mem_of_getElem? (i := 2317) (by decide +kernel)⟩
theorem lw_p259 : lw_okq (⟨"DocumentHouseModel", "keyAt", "(III)I"⟩, 78) := ⟨⟨by decide +kernel, by decide +kernel⟩, List.mem_of_getElem? (i := 1703) (by decide +kernel), List.mem_of_getElem? (i := 2320) (by decide +kernel), List.mem_of_getElem? (i := 2321) (by decide +kernel)⟩
theorem lw_p260 : lw_okq (⟨"DocumentHouseModel", "putValue", "(I)V"⟩, 78) := ⟨⟨by decide +kernel, by decide +kernel⟩, List.mem_of_getElem? (i := 1703) (by decide +kernel), List.mem_of_getElem? (i := 2325) (by decide +kernel), List.mem_of_getElem? (i := 2326) (by decide +kernel)⟩
theorem lw_p261 : lw_okq (⟨"DocumentHouseModel", "putBytes", "(II)V"⟩, 78) := ⟨⟨by decide +kernel, by decide +kernel⟩, List.mem_of_getElem? (i := 1703) (by decide +kernel), List.mem_of_getElem? (i := 2329) (by decide +kernel), List.mem_of_getElem? (i := 2330) (by decide +kernel)⟩
theorem lw_p262 : lw_okq (⟨"DocumentHouseModel", "comes", "(III)Z"⟩, 78) := ⟨⟨by decide +kernel, by decide +kernel⟩, List.mem_of_getElem? (i := 1703) (by decide +kernel), List.mem_of_getElem? (i := 2333) (by decide +kernel), List.mem_of_getElem? (i := 2334) (by decide +kernel)⟩
theorem lw_p263 : lw_okq (⟨"DocumentHouseModel", "placeIn", "(III)I"⟩, 78) := ⟨⟨by decide +kernel, by decide +kernel⟩, List.mem_of_getElem? (i := 1703) (by decide +kernel), List.mem_of_getElem? (i := 2337) (by decide +kernel), List.mem_of_getElem? (i := 2338) (by decide +kernel)⟩
theorem lw_p264 : lw_okq (⟨"DocumentHouseModel", "order", "(III)I"⟩, 78) := ⟨⟨by decide +kernel, by decide +kernel⟩, List.mem_of_getElem? (i := 1703) (by decide +kernel), List.mem_of_getElem? (i := 2341) (by decide +kernel), List.mem_of_getElem? (i := 2342) (by decide +kernel)⟩
theorem lw_p265 : lw_okq (⟨"DocumentHouseModel", "insertAt", "(IIIII)V"⟩, 78) := ⟨⟨by decide +kernel, by decide +kernel⟩, List.mem_of_getElem? (i := 1703) (by decide +kernel), List.mem_of_getElem? (i := 2345) (by decide +kernel), List.mem_of_getElem? (i := 2346) (by decide +kernel)⟩
theorem lw_p266 : lw_okq (⟨"DocumentHouseModel", "downTo", "(III)I"⟩, 78) := ⟨⟨by decide +kernel, by decide +kernel⟩, List.mem_of_getElem? (i := 1703) (by decide +kernel), List.mem_of_getElem? (i := 2349) (by decide +kernel), List.mem_of_getElem? (i := 2350) (by decide +kernel)⟩
theorem lw_p267 : lw_okq (⟨"DocumentHouseModel", "leave", "(IIII)V"⟩, 78) := ⟨⟨by decide +kernel, by decide +kernel⟩, List.mem_of_getElem? (i := 1703) (by decide +kernel), List.mem_of_getElem? (i := 2353) (by decide +kernel), List.mem_of_getElem? (i := 2354) (by decide +kernel)⟩
theorem lw_p268 : lw_okq (⟨"DocumentHouseModel", "goes", "(III)V"⟩, 78) := ⟨⟨by decide +kernel, by decide +kernel⟩, List.mem_of_getElem? (i := 1703) (by decide +kernel), List.mem_of_getElem? (i := 2357) (by decide +kernel), List.mem_of_getElem? (i := 2358) (by decide +kernel)⟩
theorem lw_p269 : lw_okq (⟨"DocumentHouseModel", "removeAt", "(III)V"⟩, 78) := ⟨⟨by decide +kernel, by decide +kernel⟩, List.mem_of_getElem? (i := 1703) (by decide +kernel), List.mem_of_getElem? (i := 2361) (by decide +kernel), List.mem_of_getElem? (i := 2362) (by decide +kernel)⟩
theorem lw_p270 : lw_okq (⟨"DocumentHouseModel", "fromAhead", "(III)V"⟩, 78) := ⟨⟨by decide +kernel, by decide +kernel⟩, List.mem_of_getElem? (i := 1703) (by decide +kernel), List.mem_of_getElem? (i := 2365) (by decide +kernel), List.mem_of_getElem? (i := 2366) (by decide +kernel)⟩
theorem lw_p271 : lw_okq (⟨"DocumentHouseModel", "fromBehind", "(III)V"⟩, 78) := ⟨⟨by decide +kernel, by decide +kernel⟩, List.mem_of_getElem? (i := 1703) (by decide +kernel), List.mem_of_getElem? (i := 2369) (by decide +kernel), List.mem_of_getElem? (i := 2370) (by decide +kernel)⟩
def lw_privs_17 : List (MethodName × Nat) := [(⟨"DocumentHouseModel", "newEntry", "(IIII)I"⟩, 78), (⟨"DocumentHouseModel", "sweep", "(I)V"⟩, 78), (⟨"DocumentHouseModel", "sizeOf", "(II)I"⟩, 78), (⟨"DocumentHouseModel", "keyAt", "(III)I"⟩, 78), (⟨"DocumentHouseModel", "putValue", "(I)V"⟩, 78), (⟨"DocumentHouseModel", "putBytes", "(II)V"⟩, 78), (⟨"DocumentHouseModel", "comes", "(III)Z"⟩, 78), (⟨"DocumentHouseModel", "placeIn", "(III)I"⟩, 78), (⟨"DocumentHouseModel", "order", "(III)I"⟩, 78), (⟨"DocumentHouseModel", "insertAt", "(IIIII)V"⟩, 78), (⟨"DocumentHouseModel", "downTo", "(III)I"⟩, 78), (⟨"DocumentHouseModel", "leave", "(IIII)V"⟩, 78), (⟨"DocumentHouseModel", "goes", "(III)V"⟩, 78), (⟨"DocumentHouseModel", "removeAt", "(III)V"⟩, 78), (⟨"DocumentHouseModel", "fromAhead", "(III)V"⟩, 78), (⟨"DocumentHouseModel", "fromBehind", "(III)V"⟩, 78)]
theorem lw_r17 : ∀ q ∈ lw_privs_17, lw_okq q := List.forall_mem_cons.mpr ⟨lw_p256, List.forall_mem_cons.mpr ⟨lw_p257, List.forall_mem_cons.mpr ⟨lw_p258, List.forall_mem_cons.mpr ⟨lw_p259, List.forall_mem_cons.mpr ⟨lw_p260, List.forall_mem_cons.mpr ⟨lw_p261, List.forall_mem_cons.mpr ⟨lw_p262, List.forall_mem_cons.mpr ⟨lw_p263, List.forall_mem_cons.mpr ⟨lw_p264, List.forall_mem_cons.mpr ⟨lw_p265, List.forall_mem_cons.mpr ⟨lw_p266, List.forall_mem_cons.mpr ⟨lw_p267, List.forall_mem_cons.mpr ⟨lw_p268, List.forall_mem_cons.mpr ⟨lw_p269, List.forall_mem_cons.mpr ⟨lw_p270, List.forall_mem_cons.mpr ⟨lw_p271, fun _ h => absurd h List.not_mem_nil⟩⟩⟩⟩⟩⟩⟩⟩⟩⟩⟩⟩⟩⟩⟩⟩
theorem lw_p272 : lw_okq (⟨"DocumentHouseModel", "join", "(III)V"⟩, 78) := ⟨⟨by decide +kernel, by decide +kernel⟩, List.mem_of_getElem? (i := 1703) (by decide +kernel), List.mem_of_getElem? (i := 2373) (by decide +kernel), List.mem_of_getElem? (i := 2374) (by decide +kernel)⟩
theorem lw_p273 : lw_okq (⟨"DocumentHouseModel", "pipeline", "(II)Z"⟩, 78) := ⟨⟨by decide +kernel, by decide +kernel⟩, List.mem_of_getElem? (i := 1703) (by decide +kernel), List.mem_of_getElem? (i := 2377) (by decide +kernel), List.mem_of_getElem? (i := 2378) (by decide +kernel)⟩
theorem lw_p274 : lw_okq (⟨"DocumentHouseModel", "filterIsRight", "(I)Z"⟩, 78) := ⟨⟨by decide +kernel, by decide +kernel⟩, List.mem_of_getElem? (i := 1703) (by decide +kernel), List.mem_of_getElem? (i := 2382) (by decide +kernel), List.mem_of_getElem? (i := 2383) (by decide +kernel)⟩
theorem lw_p275 : lw_okq (⟨"DocumentHouseModel", "isFilter", "(I)Z"⟩, 78) := ⟨⟨by decide +kernel, by decide +kernel⟩, List.mem_of_getElem? (i := 1703) (by decide +kernel), List.mem_of_getElem? (i := 2386) (by decide +kernel), List.mem_of_getElem? (i := 2387) (by decide +kernel)⟩
theorem lw_p276 : lw_okq (⟨"DocumentHouseModel", "checkFilter", "(I)Z"⟩, 78) := ⟨⟨by decide +kernel, by decide +kernel⟩, List.mem_of_getElem? (i := 1703) (by decide +kernel), List.mem_of_getElem? (i := 2390) (by decide +kernel), List.mem_of_getElem? (i := 2391) (by decide +kernel)⟩
theorem lw_p277 : lw_okq (⟨"DocumentHouseModel", "begins", "(II)Z"⟩, 78) := ⟨⟨by decide +kernel, by decide +kernel⟩, List.mem_of_getElem? (i := 1703) (by decide +kernel), List.mem_of_getElem? (i := 2394) (by decide +kernel), List.mem_of_getElem? (i := 2395) (by decide +kernel)⟩
theorem lw_p278 : lw_okq (⟨"DocumentHouseModel", "checkJoining", "(I)Z"⟩, 78) := ⟨⟨by decide +kernel, by decide +kernel⟩, List.mem_of_getElem? (i := 1703) (by decide +kernel), List.mem_of_getElem? (i := 2398) (by decide +kernel), List.mem_of_getElem? (i := 2399) (by decide +kernel)⟩
theorem lw_p279 : lw_okq (⟨"DocumentHouseModel", "isJoining", "(I)Z"⟩, 78) := ⟨⟨by decide +kernel, by decide +kernel⟩, List.mem_of_getElem? (i := 1703) (by decide +kernel), List.mem_of_getElem? (i := 2402) (by decide +kernel), List.mem_of_getElem? (i := 2403) (by decide +kernel)⟩
theorem lw_p280 : lw_okq (⟨"DocumentHouseModel", "counts", "(II)Z"⟩, 78) := ⟨⟨by decide +kernel, by decide +kernel⟩, List.mem_of_getElem? (i := 1703) (by decide +kernel), List.mem_of_getElem? (i := 2409) (by decide +kernel), List.mem_of_getElem? (i := 2410) (by decide +kernel)⟩
theorem lw_p281 : lw_okq (⟨"DocumentHouseModel", "areConditions", "(I)Z"⟩, 78) := ⟨⟨by decide +kernel, by decide +kernel⟩, List.mem_of_getElem? (i := 1703) (by decide +kernel), List.mem_of_getElem? (i := 2413) (by decide +kernel), List.mem_of_getElem? (i := 2414) (by decide +kernel)⟩
theorem lw_p282 : lw_okq (⟨"DocumentHouseModel", "checkConditions", "(I)Z"⟩, 78) := ⟨⟨by decide +kernel, by decide +kernel⟩, List.mem_of_getElem? (i := 1703) (by decide +kernel), List.mem_of_getElem? (i := 2417) (by decide +kernel), List.mem_of_getElem? (i := 2418) (by decide +kernel)⟩
theorem lw_p283 : lw_okq (⟨"DocumentHouseModel", "isCondition", "(I)Z"⟩, 78) := ⟨⟨by decide +kernel, by decide +kernel⟩, List.mem_of_getElem? (i := 1703) (by decide +kernel), List.mem_of_getElem? (i := 2421) (by decide +kernel), List.mem_of_getElem? (i := 2422) (by decide +kernel)⟩
theorem lw_p284 : lw_okq (⟨"DocumentHouseModel", "hasRightValue", "(I)Z"⟩, 78) := ⟨⟨by decide +kernel, by decide +kernel⟩, List.mem_of_getElem? (i := 1703) (by decide +kernel), List.mem_of_getElem? (i := 2437) (by decide +kernel), List.mem_of_getElem? (i := 2438) (by decide +kernel)⟩
theorem lw_p285 : lw_okq (⟨"DocumentHouseModel", "areOfItems", "(I)Z"⟩, 78) := ⟨⟨by decide +kernel, by decide +kernel⟩, List.mem_of_getElem? (i := 1703) (by decide +kernel), List.mem_of_getElem? (i := 2441) (by decide +kernel), List.mem_of_getElem? (i := 2442) (by decide +kernel)⟩
theorem lw_p286 : lw_okq (⟨"DocumentHouseModel", "holds", "(II)Z"⟩, 78) := ⟨⟨by decide +kernel, by decide +kernel⟩, List.mem_of_getElem? (i := 1703) (by decide +kernel), List.mem_of_getElem? (i := 2445) (by decide +kernel), List.mem_of_getElem? (i := 2446) (by decide +kernel)⟩
theorem lw_p287 : lw_okq (⟨"DocumentHouseModel", "holdsOne", "(II)Z"⟩, 78) := ⟨⟨by decide +kernel, by decide +kernel⟩, List.mem_of_getElem? (i := 1703) (by decide +kernel), List.mem_of_getElem? (i := 2449) (by decide +kernel), List.mem_of_getElem? (i := 2450) (by decide +kernel)⟩
def lw_privs_18 : List (MethodName × Nat) := [(⟨"DocumentHouseModel", "join", "(III)V"⟩, 78), (⟨"DocumentHouseModel", "pipeline", "(II)Z"⟩, 78), (⟨"DocumentHouseModel", "filterIsRight", "(I)Z"⟩, 78), (⟨"DocumentHouseModel", "isFilter", "(I)Z"⟩, 78), (⟨"DocumentHouseModel", "checkFilter", "(I)Z"⟩, 78), (⟨"DocumentHouseModel", "begins", "(II)Z"⟩, 78), (⟨"DocumentHouseModel", "checkJoining", "(I)Z"⟩, 78), (⟨"DocumentHouseModel", "isJoining", "(I)Z"⟩, 78), (⟨"DocumentHouseModel", "counts", "(II)Z"⟩, 78), (⟨"DocumentHouseModel", "areConditions", "(I)Z"⟩, 78), (⟨"DocumentHouseModel", "checkConditions", "(I)Z"⟩, 78), (⟨"DocumentHouseModel", "isCondition", "(I)Z"⟩, 78), (⟨"DocumentHouseModel", "hasRightValue", "(I)Z"⟩, 78), (⟨"DocumentHouseModel", "areOfItems", "(I)Z"⟩, 78), (⟨"DocumentHouseModel", "holds", "(II)Z"⟩, 78), (⟨"DocumentHouseModel", "holdsOne", "(II)Z"⟩, 78)]
theorem lw_r18 : ∀ q ∈ lw_privs_18, lw_okq q := List.forall_mem_cons.mpr ⟨lw_p272, List.forall_mem_cons.mpr ⟨lw_p273, List.forall_mem_cons.mpr ⟨lw_p274, List.forall_mem_cons.mpr ⟨lw_p275, List.forall_mem_cons.mpr ⟨lw_p276, List.forall_mem_cons.mpr ⟨lw_p277, List.forall_mem_cons.mpr ⟨lw_p278, List.forall_mem_cons.mpr ⟨lw_p279, List.forall_mem_cons.mpr ⟨lw_p280, List.forall_mem_cons.mpr ⟨lw_p281, List.forall_mem_cons.mpr ⟨lw_p282, List.forall_mem_cons.mpr ⟨lw_p283, List.forall_mem_cons.mpr ⟨lw_p284, List.forall_mem_cons.mpr ⟨lw_p285, List.forall_mem_cons.mpr ⟨lw_p286, List.forall_mem_cons.mpr ⟨lw_p287, fun _ h => absurd h List.not_mem_nil⟩⟩⟩⟩⟩⟩⟩⟩⟩⟩⟩⟩⟩⟩⟩⟩
theorem lw_p288 : lw_okq (⟨"DocumentHouseModel", "hold", "(III)Z"⟩, 78) := ⟨⟨by decide +kernel, by decide +kernel⟩, List.mem_of_getElem? (i := 1703) (by decide +kernel), List.mem_of_getElem? (i := 2453) (by decide +kernel), List.mem_of_getElem? (i := 2454) (by decide +kernel)⟩
theorem lw_p289 : lw_okq (⟨"DocumentHouseModel", "holdsCondition", "(III)Z"⟩, 78) := ⟨⟨by decide +kernel, by decide +kernel⟩, List.mem_of_getElem? (i := 1703) (by decide +kernel), List.mem_of_getElem? (i := 2457) (by decide +kernel), List.mem_of_getElem? (i := 2458) (by decide +kernel)⟩
theorem lw_p290 : lw_okq (⟨"DocumentHouseModel", "equals", "(III)Z"⟩, 78) := ⟨⟨by decide +kernel, by decide +kernel⟩, List.mem_of_getElem? (i := 1703) (by decide +kernel), List.mem_of_getElem? (i := 2461) (by decide +kernel), List.mem_of_getElem? (i := 2462) (by decide +kernel)⟩
theorem lw_p291 : lw_okq (⟨"DocumentHouseModel", "equalsSome", "(III)Z"⟩, 78) := ⟨⟨by decide +kernel, by decide +kernel⟩, List.mem_of_getElem? (i := 1703) (by decide +kernel), List.mem_of_getElem? (i := 2465) (by decide +kernel), List.mem_of_getElem? (i := 2466) (by decide +kernel)⟩
theorem lw_p292 : lw_okq (⟨"DocumentHouseModel", "hasItem", "(II)Z"⟩, 78) := ⟨⟨by decide +kernel, by decide +kernel⟩, List.mem_of_getElem? (i := 1703) (by decide +kernel), List.mem_of_getElem? (i := 2469) (by decide +kernel), List.mem_of_getElem? (i := 2470) (by decide +kernel)⟩
theorem lw_p293 : lw_okq (⟨"DocumentHouseModel", "compares", "(III)Z"⟩, 78) := ⟨⟨by decide +kernel, by decide +kernel⟩, List.mem_of_getElem? (i := 1703) (by decide +kernel), List.mem_of_getElem? (i := 2473) (by decide +kernel), List.mem_of_getElem? (i := 2474) (by decide +kernel)⟩
theorem lw_p294 : lw_okq (⟨"DocumentHouseModel", "isBeside", "(II)Z"⟩, 78) := ⟨⟨by decide +kernel, by decide +kernel⟩, List.mem_of_getElem? (i := 1703) (by decide +kernel), List.mem_of_getElem? (i := 2477) (by decide +kernel), List.mem_of_getElem? (i := 2478) (by decide +kernel)⟩
theorem lw_p295 : lw_okq (⟨"DocumentHouseModel", "stageFault", "(I)I"⟩, 78) := ⟨⟨by decide +kernel, by decide +kernel⟩, List.mem_of_getElem? (i := 1703) (by decide +kernel), List.mem_of_getElem? (i := 2481) (by decide +kernel), List.mem_of_getElem? (i := 2482) (by decide +kernel)⟩
theorem lw_p296 : lw_okq (⟨"DocumentHouseModel", "projectFault", "(I)I"⟩, 78) := ⟨⟨by decide +kernel, by decide +kernel⟩, List.mem_of_getElem? (i := 1703) (by decide +kernel), List.mem_of_getElem? (i := 2486) (by decide +kernel), List.mem_of_getElem? (i := 2487) (by decide +kernel)⟩
theorem lw_p297 : lw_okq (⟨"DocumentHouseModel", "isPlain", "(II)Z"⟩, 78) := ⟨⟨by decide +kernel, by decide +kernel⟩, List.mem_of_getElem? (i := 1703) (by decide +kernel), List.mem_of_getElem? (i := 2490) (by decide +kernel), List.mem_of_getElem? (i := 2491) (by decide +kernel)⟩
theorem lw_p298 : lw_okq (⟨"DocumentHouseModel", "expressionFault", "(I)I"⟩, 78) := ⟨⟨by decide +kernel, by decide +kernel⟩, List.mem_of_getElem? (i := 1703) (by decide +kernel), List.mem_of_getElem? (i := 2494) (by decide +kernel), List.mem_of_getElem? (i := 2495) (by decide +kernel)⟩
theorem lw_p299 : lw_okq (⟨"DocumentHouseModel", "isReference", "(I)Z"⟩, 78) := ⟨⟨by decide +kernel, by decide +kernel⟩, List.mem_of_getElem? (i := 1703) (by decide +kernel), List.mem_of_getElem? (i := 2498) (by decide +kernel), List.mem_of_getElem? (i := 2499) (by decide +kernel)⟩
theorem lw_p300 : lw_okq (⟨"DocumentHouseModel", "groupFault", "(I)I"⟩, 78) := ⟨⟨by decide +kernel, by decide +kernel⟩, List.mem_of_getElem? (i := 1703) (by decide +kernel), List.mem_of_getElem? (i := 2504) (by decide +kernel), List.mem_of_getElem? (i := 2505) (by decide +kernel)⟩
theorem lw_p301 : lw_okq (⟨"DocumentHouseModel", "isGathering", "(I)Z"⟩, 78) := ⟨⟨by decide +kernel, by decide +kernel⟩, List.mem_of_getElem? (i := 1703) (by decide +kernel), List.mem_of_getElem? (i := 2509) (by decide +kernel), List.mem_of_getElem? (i := 2510) (by decide +kernel)⟩
theorem lw_p302 : lw_okq (⟨"DocumentHouseModel", "sortFault", "(I)I"⟩, 78) := ⟨⟨by decide +kernel, by decide +kernel⟩, List.mem_of_getElem? (i := 1703) (by decide +kernel), List.mem_of_getElem? (i := 2522) (by decide +kernel), List.mem_of_getElem? (i := 2523) (by decide +kernel)⟩
theorem lw_p303 : lw_okq (⟨"DocumentHouseModel", "lookupFault", "(I)I"⟩, 78) := ⟨⟨by decide +kernel, by decide +kernel⟩, List.mem_of_getElem? (i := 1703) (by decide +kernel), List.mem_of_getElem? (i := 2530) (by decide +kernel), List.mem_of_getElem? (i := 2531) (by decide +kernel)⟩
def lw_privs_19 : List (MethodName × Nat) := [(⟨"DocumentHouseModel", "hold", "(III)Z"⟩, 78), (⟨"DocumentHouseModel", "holdsCondition", "(III)Z"⟩, 78), (⟨"DocumentHouseModel", "equals", "(III)Z"⟩, 78), (⟨"DocumentHouseModel", "equalsSome", "(III)Z"⟩, 78), (⟨"DocumentHouseModel", "hasItem", "(II)Z"⟩, 78), (⟨"DocumentHouseModel", "compares", "(III)Z"⟩, 78), (⟨"DocumentHouseModel", "isBeside", "(II)Z"⟩, 78), (⟨"DocumentHouseModel", "stageFault", "(I)I"⟩, 78), (⟨"DocumentHouseModel", "projectFault", "(I)I"⟩, 78), (⟨"DocumentHouseModel", "isPlain", "(II)Z"⟩, 78), (⟨"DocumentHouseModel", "expressionFault", "(I)I"⟩, 78), (⟨"DocumentHouseModel", "isReference", "(I)Z"⟩, 78), (⟨"DocumentHouseModel", "groupFault", "(I)I"⟩, 78), (⟨"DocumentHouseModel", "isGathering", "(I)Z"⟩, 78), (⟨"DocumentHouseModel", "sortFault", "(I)I"⟩, 78), (⟨"DocumentHouseModel", "lookupFault", "(I)I"⟩, 78)]
theorem lw_r19 : ∀ q ∈ lw_privs_19, lw_okq q := List.forall_mem_cons.mpr ⟨lw_p288, List.forall_mem_cons.mpr ⟨lw_p289, List.forall_mem_cons.mpr ⟨lw_p290, List.forall_mem_cons.mpr ⟨lw_p291, List.forall_mem_cons.mpr ⟨lw_p292, List.forall_mem_cons.mpr ⟨lw_p293, List.forall_mem_cons.mpr ⟨lw_p294, List.forall_mem_cons.mpr ⟨lw_p295, List.forall_mem_cons.mpr ⟨lw_p296, List.forall_mem_cons.mpr ⟨lw_p297, List.forall_mem_cons.mpr ⟨lw_p298, List.forall_mem_cons.mpr ⟨lw_p299, List.forall_mem_cons.mpr ⟨lw_p300, List.forall_mem_cons.mpr ⟨lw_p301, List.forall_mem_cons.mpr ⟨lw_p302, List.forall_mem_cons.mpr ⟨lw_p303, fun _ h => absurd h List.not_mem_nil⟩⟩⟩⟩⟩⟩⟩⟩⟩⟩⟩⟩⟩⟩⟩⟩
theorem lw_p304 : lw_okq (⟨"DocumentHouseModel", "stage", "(I)I"⟩, 78) := ⟨⟨by decide +kernel, by decide +kernel⟩, List.mem_of_getElem? (i := 1703) (by decide +kernel), List.mem_of_getElem? (i := 2537) (by decide +kernel), List.mem_of_getElem? (i := 2538) (by decide +kernel)⟩
theorem lw_p305 : lw_okq (⟨"DocumentHouseModel", "sort", "(I)I"⟩, 78) := ⟨⟨by decide +kernel, by decide +kernel⟩, List.mem_of_getElem? (i := 1703) (by decide +kernel), List.mem_of_getElem? (i := 2541) (by decide +kernel), List.mem_of_getElem? (i := 2542) (by decide +kernel)⟩
theorem lw_p306 : lw_okq (⟨"DocumentHouseModel", "withItems", "(III)I"⟩, 78) := ⟨⟨by decide +kernel, by decide +kernel⟩, List.mem_of_getElem? (i := 1703) (by decide +kernel), List.mem_of_getElem? (i := 2545) (by decide +kernel), List.mem_of_getElem? (i := 2546) (by decide +kernel)⟩
theorem lw_p307 : lw_okq (⟨"DocumentHouseModel", "compareKeys", "(IIII)I"⟩, 78) := ⟨⟨by decide +kernel, by decide +kernel⟩, List.mem_of_getElem? (i := 1703) (by decide +kernel), List.mem_of_getElem? (i := 2549) (by decide +kernel), List.mem_of_getElem? (i := 2550) (by decide +kernel)⟩
theorem lw_p308 : lw_okq (⟨"DocumentHouseModel", "beginMaking", "()V"⟩, 78) := ⟨⟨by decide +kernel, by decide +kernel⟩, List.mem_of_getElem? (i := 1703) (by decide +kernel), List.mem_of_getElem? (i := 2553) (by decide +kernel), List.mem_of_getElem? (i := 2554) (by decide +kernel)⟩
theorem lw_p309 : lw_okq (⟨"DocumentHouseModel", "group", "(I)Z"⟩, 78) := ⟨⟨by decide +kernel, by decide +kernel⟩, List.mem_of_getElem? (i := 1703) (by decide +kernel), List.mem_of_getElem? (i := 2559) (by decide +kernel), List.mem_of_getElem? (i := 2560) (by decide +kernel)⟩
theorem lw_p310 : lw_okq (⟨"DocumentHouseModel", "haveSameKey", "(III)Z"⟩, 78) := ⟨⟨by decide +kernel, by decide +kernel⟩, List.mem_of_getElem? (i := 1703) (by decide +kernel), List.mem_of_getElem? (i := 2563) (by decide +kernel), List.mem_of_getElem? (i := 2564) (by decide +kernel)⟩
theorem lw_p311 : lw_okq (⟨"DocumentHouseModel", "fresh", "(II)I"⟩, 78) := ⟨⟨by decide +kernel, by decide +kernel⟩, List.mem_of_getElem? (i := 1703) (by decide +kernel), List.mem_of_getElem? (i := 2567) (by decide +kernel), List.mem_of_getElem? (i := 2568) (by decide +kernel)⟩
theorem lw_p312 : lw_okq (⟨"DocumentHouseModel", "valueAt", "(II)I"⟩, 78) := ⟨⟨by decide +kernel, by decide +kernel⟩, List.mem_of_getElem? (i := 1703) (by decide +kernel), List.mem_of_getElem? (i := 2572) (by decide +kernel), List.mem_of_getElem? (i := 2573) (by decide +kernel)⟩
theorem lw_p313 : lw_okq (⟨"DocumentHouseModel", "resolve", "(III)V"⟩, 78) := ⟨⟨by decide +kernel, by decide +kernel⟩, List.mem_of_getElem? (i := 1703) (by decide +kernel), List.mem_of_getElem? (i := 2576) (by decide +kernel), List.mem_of_getElem? (i := 2577) (by decide +kernel)⟩
theorem lw_p314 : lw_okq (⟨"DocumentHouseModel", "putValues", "(III)V"⟩, 78) := ⟨⟨by decide +kernel, by decide +kernel⟩, List.mem_of_getElem? (i := 1703) (by decide +kernel), List.mem_of_getElem? (i := 2580) (by decide +kernel), List.mem_of_getElem? (i := 2581) (by decide +kernel)⟩
theorem lw_p315 : lw_okq (⟨"DocumentHouseModel", "putDigits", "(I)V"⟩, 78) := ⟨⟨by decide +kernel, by decide +kernel⟩, List.mem_of_getElem? (i := 1703) (by decide +kernel), List.mem_of_getElem? (i := 2584) (by decide +kernel), List.mem_of_getElem? (i := 2585) (by decide +kernel)⟩
theorem lw_p316 : lw_okq (⟨"DocumentHouseModel", "putAs", "(III)V"⟩, 78) := ⟨⟨by decide +kernel, by decide +kernel⟩, List.mem_of_getElem? (i := 1703) (by decide +kernel), List.mem_of_getElem? (i := 2591) (by decide +kernel), List.mem_of_getElem? (i := 2592) (by decide +kernel)⟩
theorem lw_p317 : lw_okq (⟨"DocumentHouseModel", "gather", "(III)V"⟩, 78) := ⟨⟨by decide +kernel, by decide +kernel⟩, List.mem_of_getElem? (i := 1703) (by decide +kernel), List.mem_of_getElem? (i := 2595) (by decide +kernel), List.mem_of_getElem? (i := 2596) (by decide +kernel)⟩
theorem lw_p318 : lw_okq (⟨"DocumentHouseModel", "putTotal", "(III)V"⟩, 78) := ⟨⟨by decide +kernel, by decide +kernel⟩, List.mem_of_getElem? (i := 1703) (by decide +kernel), List.mem_of_getElem? (i := 2599) (by decide +kernel), List.mem_of_getElem? (i := 2600) (by decide +kernel)⟩
theorem lw_p319 : lw_okq (⟨"DocumentHouseModel", "putName", "(II)V"⟩, 78) := ⟨⟨by decide +kernel, by decide +kernel⟩, List.mem_of_getElem? (i := 1703) (by decide +kernel), List.mem_of_getElem? (i := 2605) (by decide +kernel), List.mem_of_getElem? (i := 2606) (by decide +kernel)⟩
def lw_privs_20 : List (MethodName × Nat) := [(⟨"DocumentHouseModel", "stage", "(I)I"⟩, 78), (⟨"DocumentHouseModel", "sort", "(I)I"⟩, 78), (⟨"DocumentHouseModel", "withItems", "(III)I"⟩, 78), (⟨"DocumentHouseModel", "compareKeys", "(IIII)I"⟩, 78), (⟨"DocumentHouseModel", "beginMaking", "()V"⟩, 78), (⟨"DocumentHouseModel", "group", "(I)Z"⟩, 78), (⟨"DocumentHouseModel", "haveSameKey", "(III)Z"⟩, 78), (⟨"DocumentHouseModel", "fresh", "(II)I"⟩, 78), (⟨"DocumentHouseModel", "valueAt", "(II)I"⟩, 78), (⟨"DocumentHouseModel", "resolve", "(III)V"⟩, 78), (⟨"DocumentHouseModel", "putValues", "(III)V"⟩, 78), (⟨"DocumentHouseModel", "putDigits", "(I)V"⟩, 78), (⟨"DocumentHouseModel", "putAs", "(III)V"⟩, 78), (⟨"DocumentHouseModel", "gather", "(III)V"⟩, 78), (⟨"DocumentHouseModel", "putTotal", "(III)V"⟩, 78), (⟨"DocumentHouseModel", "putName", "(II)V"⟩, 78)]
theorem lw_r20 : ∀ q ∈ lw_privs_20, lw_okq q := List.forall_mem_cons.mpr ⟨lw_p304, List.forall_mem_cons.mpr ⟨lw_p305, List.forall_mem_cons.mpr ⟨lw_p306, List.forall_mem_cons.mpr ⟨lw_p307, List.forall_mem_cons.mpr ⟨lw_p308, List.forall_mem_cons.mpr ⟨lw_p309, List.forall_mem_cons.mpr ⟨lw_p310, List.forall_mem_cons.mpr ⟨lw_p311, List.forall_mem_cons.mpr ⟨lw_p312, List.forall_mem_cons.mpr ⟨lw_p313, List.forall_mem_cons.mpr ⟨lw_p314, List.forall_mem_cons.mpr ⟨lw_p315, List.forall_mem_cons.mpr ⟨lw_p316, List.forall_mem_cons.mpr ⟨lw_p317, List.forall_mem_cons.mpr ⟨lw_p318, List.forall_mem_cons.mpr ⟨lw_p319, fun _ h => absurd h List.not_mem_nil⟩⟩⟩⟩⟩⟩⟩⟩⟩⟩⟩⟩⟩⟩⟩⟩
theorem lw_p320 : lw_okq (⟨"DocumentHouseModel", "putGathered", "(IIZ)V"⟩, 78) := ⟨⟨by decide +kernel, by decide +kernel⟩, List.mem_of_getElem? (i := 1703) (by decide +kernel), List.mem_of_getElem? (i := 2609) (by decide +kernel), List.mem_of_getElem? (i := 2610) (by decide +kernel)⟩
theorem lw_p321 : lw_okq (⟨"DocumentHouseModel", "isAhead", "(IIII)Z"⟩, 78) := ⟨⟨by decide +kernel, by decide +kernel⟩, List.mem_of_getElem? (i := 1703) (by decide +kernel), List.mem_of_getElem? (i := 2613) (by decide +kernel), List.mem_of_getElem? (i := 2614) (by decide +kernel)⟩
theorem lw_p322 : lw_okq (⟨"DocumentHouseModel", "end", "(IZ)I"⟩, 78) := ⟨⟨by decide +kernel, by decide +kernel⟩, List.mem_of_getElem? (i := 1703) (by decide +kernel), List.mem_of_getElem? (i := 2617) (by decide +kernel), List.mem_of_getElem? (i := 2618) (by decide +kernel)⟩
theorem lw_p323 : lw_okq (⟨"DocumentHouseModel", "most", "(IIZ)I"⟩, 78) := ⟨⟨by decide +kernel, by decide +kernel⟩, List.mem_of_getElem? (i := 1703) (by decide +kernel), List.mem_of_getElem? (i := 2621) (by decide +kernel), List.mem_of_getElem? (i := 2622) (by decide +kernel)⟩
theorem lw_p324 : lw_okq (⟨"DocumentHouseModel", "deliver", "(I)V"⟩, 78) := ⟨⟨by decide +kernel, by decide +kernel⟩, List.mem_of_getElem? (i := 1703) (by decide +kernel), List.mem_of_getElem? (i := 2625) (by decide +kernel), List.mem_of_getElem? (i := 2626) (by decide +kernel)⟩
theorem lw_p325 : lw_okq (⟨"DocumentHouseModel", "endMaking", "()I"⟩, 78) := ⟨⟨by decide +kernel, by decide +kernel⟩, List.mem_of_getElem? (i := 1703) (by decide +kernel), List.mem_of_getElem? (i := 2629) (by decide +kernel), List.mem_of_getElem? (i := 2630) (by decide +kernel)⟩
theorem lw_p326 : lw_okq (⟨"DocumentHouseModel", "depth", "(I)I"⟩, 78) := ⟨⟨by decide +kernel, by decide +kernel⟩, List.mem_of_getElem? (i := 1703) (by decide +kernel), List.mem_of_getElem? (i := 2633) (by decide +kernel), List.mem_of_getElem? (i := 2634) (by decide +kernel)⟩
theorem lw_p327 : lw_okq (⟨"DocumentHouseModel", "project", "(II)V"⟩, 78) := ⟨⟨by decide +kernel, by decide +kernel⟩, List.mem_of_getElem? (i := 1703) (by decide +kernel), List.mem_of_getElem? (i := 2638) (by decide +kernel), List.mem_of_getElem? (i := 2639) (by decide +kernel)⟩
theorem lw_p328 : lw_okq (⟨"DocumentHouseModel", "unwind", "(II)V"⟩, 78) := ⟨⟨by decide +kernel, by decide +kernel⟩, List.mem_of_getElem? (i := 1703) (by decide +kernel), List.mem_of_getElem? (i := 2642) (by decide +kernel), List.mem_of_getElem? (i := 2643) (by decide +kernel)⟩
theorem lw_p329 : lw_okq (⟨"DocumentHouseModel", "through", "(III)I"⟩, 78) := ⟨⟨by decide +kernel, by decide +kernel⟩, List.mem_of_getElem? (i := 1703) (by decide +kernel), List.mem_of_getElem? (i := 2646) (by decide +kernel), List.mem_of_getElem? (i := 2647) (by decide +kernel)⟩
theorem lw_p330 : lw_okq (⟨"DocumentHouseModel", "putUnwound", "(III)V"⟩, 78) := ⟨⟨by decide +kernel, by decide +kernel⟩, List.mem_of_getElem? (i := 1703) (by decide +kernel), List.mem_of_getElem? (i := 2650) (by decide +kernel), List.mem_of_getElem? (i := 2651) (by decide +kernel)⟩
theorem lw_p331 : lw_okq (⟨"DocumentHouseModel", "lookup", "(II)V"⟩, 78) := ⟨⟨by decide +kernel, by decide +kernel⟩, List.mem_of_getElem? (i := 1703) (by decide +kernel), List.mem_of_getElem? (i := 2654) (by decide +kernel), List.mem_of_getElem? (i := 2655) (by decide +kernel)⟩
theorem lw_p332 : lw_okq (⟨"DocumentHouseModel", "putJoined", "(IIIII)V"⟩, 78) := ⟨⟨by decide +kernel, by decide +kernel⟩, List.mem_of_getElem? (i := 1703) (by decide +kernel), List.mem_of_getElem? (i := 2658) (by decide +kernel), List.mem_of_getElem? (i := 2659) (by decide +kernel)⟩
theorem lw_p333 : lw_okq (⟨"DocumentHouseModel", "once", "(I)V"⟩, 78) := ⟨⟨by decide +kernel, by decide +kernel⟩, List.mem_of_getElem? (i := 1703) (by decide +kernel), List.mem_of_getElem? (i := 2662) (by decide +kernel), List.mem_of_getElem? (i := 2663) (by decide +kernel)⟩
theorem lw_p334 : lw_okq (⟨"DocumentHouseModel", "insert", "(II)Z"⟩, 78) := ⟨⟨by decide +kernel, by decide +kernel⟩, List.mem_of_getElem? (i := 1703) (by decide +kernel), List.mem_of_getElem? (i := 2668) (by decide +kernel), List.mem_of_getElem? (i := 2669) (by decide +kernel)⟩
theorem lw_p335 : lw_okq (⟨"DocumentHouseModel", "explain", "(II)Z"⟩, 78) := ⟨⟨by decide +kernel, by decide +kernel⟩, List.mem_of_getElem? (i := 1703) (by decide +kernel), List.mem_of_getElem? (i := 2673) (by decide +kernel), List.mem_of_getElem? (i := 2674) (by decide +kernel)⟩
def lw_privs_21 : List (MethodName × Nat) := [(⟨"DocumentHouseModel", "putGathered", "(IIZ)V"⟩, 78), (⟨"DocumentHouseModel", "isAhead", "(IIII)Z"⟩, 78), (⟨"DocumentHouseModel", "end", "(IZ)I"⟩, 78), (⟨"DocumentHouseModel", "most", "(IIZ)I"⟩, 78), (⟨"DocumentHouseModel", "deliver", "(I)V"⟩, 78), (⟨"DocumentHouseModel", "endMaking", "()I"⟩, 78), (⟨"DocumentHouseModel", "depth", "(I)I"⟩, 78), (⟨"DocumentHouseModel", "project", "(II)V"⟩, 78), (⟨"DocumentHouseModel", "unwind", "(II)V"⟩, 78), (⟨"DocumentHouseModel", "through", "(III)I"⟩, 78), (⟨"DocumentHouseModel", "putUnwound", "(III)V"⟩, 78), (⟨"DocumentHouseModel", "lookup", "(II)V"⟩, 78), (⟨"DocumentHouseModel", "putJoined", "(IIIII)V"⟩, 78), (⟨"DocumentHouseModel", "once", "(I)V"⟩, 78), (⟨"DocumentHouseModel", "insert", "(II)Z"⟩, 78), (⟨"DocumentHouseModel", "explain", "(II)Z"⟩, 78)]
theorem lw_r21 : ∀ q ∈ lw_privs_21, lw_okq q := List.forall_mem_cons.mpr ⟨lw_p320, List.forall_mem_cons.mpr ⟨lw_p321, List.forall_mem_cons.mpr ⟨lw_p322, List.forall_mem_cons.mpr ⟨lw_p323, List.forall_mem_cons.mpr ⟨lw_p324, List.forall_mem_cons.mpr ⟨lw_p325, List.forall_mem_cons.mpr ⟨lw_p326, List.forall_mem_cons.mpr ⟨lw_p327, List.forall_mem_cons.mpr ⟨lw_p328, List.forall_mem_cons.mpr ⟨lw_p329, List.forall_mem_cons.mpr ⟨lw_p330, List.forall_mem_cons.mpr ⟨lw_p331, List.forall_mem_cons.mpr ⟨lw_p332, List.forall_mem_cons.mpr ⟨lw_p333, List.forall_mem_cons.mpr ⟨lw_p334, List.forall_mem_cons.mpr ⟨lw_p335, fun _ h => absurd h List.not_mem_nil⟩⟩⟩⟩⟩⟩⟩⟩⟩⟩⟩⟩⟩⟩⟩⟩
theorem lw_p336 : lw_okq (⟨"DocumentHouseModel", "choose", "(II)I"⟩, 78) := ⟨⟨by decide +kernel, by decide +kernel⟩, List.mem_of_getElem? (i := 1703) (by decide +kernel), List.mem_of_getElem? (i := 2677) (by decide +kernel), List.mem_of_getElem? (i := 2678) (by decide +kernel)⟩
theorem lw_p337 : lw_okq (⟨"DocumentHouseModel", "weigh", "(II)V"⟩, 78) := ⟨⟨by decide +kernel, by decide +kernel⟩, List.mem_of_getElem? (i := 1703) (by decide +kernel), List.mem_of_getElem? (i := 2681) (by decide +kernel), List.mem_of_getElem? (i := 2682) (by decide +kernel)⟩
theorem lw_p338 : lw_okq (⟨"DocumentHouseModel", "bounds", "(III)Z"⟩, 78) := ⟨⟨by decide +kernel, by decide +kernel⟩, List.mem_of_getElem? (i := 1703) (by decide +kernel), List.mem_of_getElem? (i := 2685) (by decide +kernel), List.mem_of_getElem? (i := 2686) (by decide +kernel)⟩
theorem lw_p339 : lw_okq (⟨"DocumentHouseModel", "collect", "(III)V"⟩, 78) := ⟨⟨by decide +kernel, by decide +kernel⟩, List.mem_of_getElem? (i := 1703) (by decide +kernel), List.mem_of_getElem? (i := 2689) (by decide +kernel), List.mem_of_getElem? (i := 2690) (by decide +kernel)⟩
theorem lw_p340 : lw_okq (⟨"DocumentHouseModel", "boundsOf", "(IZ)Z"⟩, 78) := ⟨⟨by decide +kernel, by decide +kernel⟩, List.mem_of_getElem? (i := 1703) (by decide +kernel), List.mem_of_getElem? (i := 2693) (by decide +kernel), List.mem_of_getElem? (i := 2694) (by decide +kernel)⟩
theorem lw_p341 : lw_okq (⟨"DocumentHouseModel", "addPoint", "(II)V"⟩, 78) := ⟨⟨by decide +kernel, by decide +kernel⟩, List.mem_of_getElem? (i := 1703) (by decide +kernel), List.mem_of_getElem? (i := 2697) (by decide +kernel), List.mem_of_getElem? (i := 2698) (by decide +kernel)⟩
theorem lw_p342 : lw_okq (⟨"DocumentHouseModel", "addInterval", "(IZIZ)V"⟩, 78) := ⟨⟨by decide +kernel, by decide +kernel⟩, List.mem_of_getElem? (i := 1703) (by decide +kernel), List.mem_of_getElem? (i := 2701) (by decide +kernel), List.mem_of_getElem? (i := 2702) (by decide +kernel)⟩
theorem lw_p343 : lw_okq (⟨"DocumentHouseModel", "boundsOfAny", "(IZ)Z"⟩, 78) := ⟨⟨by decide +kernel, by decide +kernel⟩, List.mem_of_getElem? (i := 1703) (by decide +kernel), List.mem_of_getElem? (i := 2711) (by decide +kernel), List.mem_of_getElem? (i := 2712) (by decide +kernel)⟩
theorem lw_p344 : lw_okq (⟨"DocumentHouseModel", "meetAll", "(II)V"⟩, 78) := ⟨⟨by decide +kernel, by decide +kernel⟩, List.mem_of_getElem? (i := 1703) (by decide +kernel), List.mem_of_getElem? (i := 2715) (by decide +kernel), List.mem_of_getElem? (i := 2716) (by decide +kernel)⟩
theorem lw_p345 : lw_okq (⟨"DocumentHouseModel", "compareEnds", "(II)I"⟩, 78) := ⟨⟨by decide +kernel, by decide +kernel⟩, List.mem_of_getElem? (i := 1703) (by decide +kernel), List.mem_of_getElem? (i := 2719) (by decide +kernel), List.mem_of_getElem? (i := 2720) (by decide +kernel)⟩
theorem lw_p346 : lw_okq (⟨"DocumentHouseModel", "classOfEnd", "(I)I"⟩, 78) := ⟨⟨by decide +kernel, by decide +kernel⟩, List.mem_of_getElem? (i := 1703) (by decide +kernel), List.mem_of_getElem? (i := 2723) (by decide +kernel), List.mem_of_getElem? (i := 2724) (by decide +kernel)⟩
theorem lw_p347 : lw_okq (⟨"DocumentHouseModel", "isPoint", "(I)Z"⟩, 78) := ⟨⟨by decide +kernel, by decide +kernel⟩, List.mem_of_getElem? (i := 1703) (by decide +kernel), List.mem_of_getElem? (i := 2727) (by decide +kernel), List.mem_of_getElem? (i := 2728) (by decide +kernel)⟩
theorem lw_p348 : lw_okq (⟨"DocumentHouseModel", "isLookedAt", "(II)Z"⟩, 78) := ⟨⟨by decide +kernel, by decide +kernel⟩, List.mem_of_getElem? (i := 1703) (by decide +kernel), List.mem_of_getElem? (i := 2731) (by decide +kernel), List.mem_of_getElem? (i := 2732) (by decide +kernel)⟩
theorem lw_p349 : lw_okq (⟨"DocumentHouseModel", "isWithin", "(III)Z"⟩, 78) := ⟨⟨by decide +kernel, by decide +kernel⟩, List.mem_of_getElem? (i := 1703) (by decide +kernel), List.mem_of_getElem? (i := 2735) (by decide +kernel), List.mem_of_getElem? (i := 2736) (by decide +kernel)⟩
theorem lw_p350 : lw_okq (⟨"DocumentHouseModel", "update", "(II)Z"⟩, 78) := ⟨⟨by decide +kernel, by decide +kernel⟩, List.mem_of_getElem? (i := 1703) (by decide +kernel), List.mem_of_getElem? (i := 2742) (by decide +kernel), List.mem_of_getElem? (i := 2743) (by decide +kernel)⟩
theorem lw_p351 : lw_okq (⟨"DocumentHouseModel", "isChange", "(I)Z"⟩, 78) := ⟨⟨by decide +kernel, by decide +kernel⟩, List.mem_of_getElem? (i := 1703) (by decide +kernel), List.mem_of_getElem? (i := 2746) (by decide +kernel), List.mem_of_getElem? (i := 2747) (by decide +kernel)⟩
def lw_privs_22 : List (MethodName × Nat) := [(⟨"DocumentHouseModel", "choose", "(II)I"⟩, 78), (⟨"DocumentHouseModel", "weigh", "(II)V"⟩, 78), (⟨"DocumentHouseModel", "bounds", "(III)Z"⟩, 78), (⟨"DocumentHouseModel", "collect", "(III)V"⟩, 78), (⟨"DocumentHouseModel", "boundsOf", "(IZ)Z"⟩, 78), (⟨"DocumentHouseModel", "addPoint", "(II)V"⟩, 78), (⟨"DocumentHouseModel", "addInterval", "(IZIZ)V"⟩, 78), (⟨"DocumentHouseModel", "boundsOfAny", "(IZ)Z"⟩, 78), (⟨"DocumentHouseModel", "meetAll", "(II)V"⟩, 78), (⟨"DocumentHouseModel", "compareEnds", "(II)I"⟩, 78), (⟨"DocumentHouseModel", "classOfEnd", "(I)I"⟩, 78), (⟨"DocumentHouseModel", "isPoint", "(I)Z"⟩, 78), (⟨"DocumentHouseModel", "isLookedAt", "(II)Z"⟩, 78), (⟨"DocumentHouseModel", "isWithin", "(III)Z"⟩, 78), (⟨"DocumentHouseModel", "update", "(II)Z"⟩, 78), (⟨"DocumentHouseModel", "isChange", "(I)Z"⟩, 78)]
theorem lw_r22 : ∀ q ∈ lw_privs_22, lw_okq q := List.forall_mem_cons.mpr ⟨lw_p336, List.forall_mem_cons.mpr ⟨lw_p337, List.forall_mem_cons.mpr ⟨lw_p338, List.forall_mem_cons.mpr ⟨lw_p339, List.forall_mem_cons.mpr ⟨lw_p340, List.forall_mem_cons.mpr ⟨lw_p341, List.forall_mem_cons.mpr ⟨lw_p342, List.forall_mem_cons.mpr ⟨lw_p343, List.forall_mem_cons.mpr ⟨lw_p344, List.forall_mem_cons.mpr ⟨lw_p345, List.forall_mem_cons.mpr ⟨lw_p346, List.forall_mem_cons.mpr ⟨lw_p347, List.forall_mem_cons.mpr ⟨lw_p348, List.forall_mem_cons.mpr ⟨lw_p349, List.forall_mem_cons.mpr ⟨lw_p350, List.forall_mem_cons.mpr ⟨lw_p351, fun _ h => absurd h List.not_mem_nil⟩⟩⟩⟩⟩⟩⟩⟩⟩⟩⟩⟩⟩⟩⟩⟩
theorem lw_p352 : lw_okq (⟨"DocumentHouseModel", "isOperator", "(I)Z"⟩, 78) := ⟨⟨by decide +kernel, by decide +kernel⟩, List.mem_of_getElem? (i := 1703) (by decide +kernel), List.mem_of_getElem? (i := 2750) (by decide +kernel), List.mem_of_getElem? (i := 2751) (by decide +kernel)⟩
theorem lw_p353 : lw_okq (⟨"DocumentHouseModel", "isTaken", "(II)Z"⟩, 78) := ⟨⟨by decide +kernel, by decide +kernel⟩, List.mem_of_getElem? (i := 1703) (by decide +kernel), List.mem_of_getElem? (i := 2758) (by decide +kernel), List.mem_of_getElem? (i := 2759) (by decide +kernel)⟩
theorem lw_p354 : lw_okq (⟨"DocumentHouseModel", "areAlong", "(II)Z"⟩, 78) := ⟨⟨by decide +kernel, by decide +kernel⟩, List.mem_of_getElem? (i := 1703) (by decide +kernel), List.mem_of_getElem? (i := 2762) (by decide +kernel), List.mem_of_getElem? (i := 2763) (by decide +kernel)⟩
theorem lw_p355 : lw_okq (⟨"DocumentHouseModel", "match", "(II)I"⟩, 78) := ⟨⟨by decide +kernel, by decide +kernel⟩, List.mem_of_getElem? (i := 1703) (by decide +kernel), List.mem_of_getElem? (i := 2766) (by decide +kernel), List.mem_of_getElem? (i := 2767) (by decide +kernel)⟩
theorem lw_p356 : lw_okq (⟨"DocumentHouseModel", "change", "(II)Z"⟩, 78) := ⟨⟨by decide +kernel, by decide +kernel⟩, List.mem_of_getElem? (i := 1703) (by decide +kernel), List.mem_of_getElem? (i := 2770) (by decide +kernel), List.mem_of_getElem? (i := 2771) (by decide +kernel)⟩
theorem lw_p357 : lw_okq (⟨"DocumentHouseModel", "doPath", "(II)I"⟩, 78) := ⟨⟨by decide +kernel, by decide +kernel⟩, List.mem_of_getElem? (i := 1703) (by decide +kernel), List.mem_of_getElem? (i := 2776) (by decide +kernel), List.mem_of_getElem? (i := 2777) (by decide +kernel)⟩
theorem lw_p358 : lw_okq (⟨"DocumentHouseModel", "reach", "(II)I"⟩, 78) := ⟨⟨by decide +kernel, by decide +kernel⟩, List.mem_of_getElem? (i := 1703) (by decide +kernel), List.mem_of_getElem? (i := 2780) (by decide +kernel), List.mem_of_getElem? (i := 2781) (by decide +kernel)⟩
theorem lw_p359 : lw_okq (⟨"DocumentHouseModel", "fromOutermost", "()V"⟩, 78) := ⟨⟨by decide +kernel, by decide +kernel⟩, List.mem_of_getElem? (i := 1703) (by decide +kernel), List.mem_of_getElem? (i := 2784) (by decide +kernel), List.mem_of_getElem? (i := 2785) (by decide +kernel)⟩
theorem lw_p360 : lw_okq (⟨"DocumentHouseModel", "meet", "(II)I"⟩, 78) := ⟨⟨by decide +kernel, by decide +kernel⟩, List.mem_of_getElem? (i := 1703) (by decide +kernel), List.mem_of_getElem? (i := 2788) (by decide +kernel), List.mem_of_getElem? (i := 2789) (by decide +kernel)⟩
theorem lw_p361 : lw_okq (⟨"DocumentHouseModel", "into", "(I)V"⟩, 78) := ⟨⟨by decide +kernel, by decide +kernel⟩, List.mem_of_getElem? (i := 1703) (by decide +kernel), List.mem_of_getElem? (i := 2792) (by decide +kernel), List.mem_of_getElem? (i := 2793) (by decide +kernel)⟩
theorem lw_p362 : lw_okq (⟨"DocumentHouseModel", "writeLoose", "()V"⟩, 78) := ⟨⟨by decide +kernel, by decide +kernel⟩, List.mem_of_getElem? (i := 1703) (by decide +kernel), List.mem_of_getElem? (i := 2796) (by decide +kernel), List.mem_of_getElem? (i := 2797) (by decide +kernel)⟩
theorem lw_p363 : lw_okq (⟨"DocumentHouseModel", "come", "(II)V"⟩, 78) := ⟨⟨by decide +kernel, by decide +kernel⟩, List.mem_of_getElem? (i := 1703) (by decide +kernel), List.mem_of_getElem? (i := 2801) (by decide +kernel), List.mem_of_getElem? (i := 2802) (by decide +kernel)⟩
theorem lw_p364 : lw_okq (⟨"DocumentHouseModel", "splice", "(II)V"⟩, 78) := ⟨⟨by decide +kernel, by decide +kernel⟩, List.mem_of_getElem? (i := 1703) (by decide +kernel), List.mem_of_getElem? (i := 2805) (by decide +kernel), List.mem_of_getElem? (i := 2806) (by decide +kernel)⟩
theorem lw_p365 : lw_okq (⟨"DocumentHouseModel", "append", "()I"⟩, 78) := ⟨⟨by decide +kernel, by decide +kernel⟩, List.mem_of_getElem? (i := 1703) (by decide +kernel), List.mem_of_getElem? (i := 2809) (by decide +kernel), List.mem_of_getElem? (i := 2810) (by decide +kernel)⟩
theorem lw_p366 : lw_okq (⟨"DocumentHouseModel", "pull", "(II)I"⟩, 78) := ⟨⟨by decide +kernel, by decide +kernel⟩, List.mem_of_getElem? (i := 1703) (by decide +kernel), List.mem_of_getElem? (i := 2813) (by decide +kernel), List.mem_of_getElem? (i := 2814) (by decide +kernel)⟩
theorem lw_p367 : lw_okq (⟨"DocumentHouseModel", "make", "(II)I"⟩, 78) := ⟨⟨by decide +kernel, by decide +kernel⟩, List.mem_of_getElem? (i := 1703) (by decide +kernel), List.mem_of_getElem? (i := 2817) (by decide +kernel), List.mem_of_getElem? (i := 2818) (by decide +kernel)⟩
def lw_privs_23 : List (MethodName × Nat) := [(⟨"DocumentHouseModel", "isOperator", "(I)Z"⟩, 78), (⟨"DocumentHouseModel", "isTaken", "(II)Z"⟩, 78), (⟨"DocumentHouseModel", "areAlong", "(II)Z"⟩, 78), (⟨"DocumentHouseModel", "match", "(II)I"⟩, 78), (⟨"DocumentHouseModel", "change", "(II)Z"⟩, 78), (⟨"DocumentHouseModel", "doPath", "(II)I"⟩, 78), (⟨"DocumentHouseModel", "reach", "(II)I"⟩, 78), (⟨"DocumentHouseModel", "fromOutermost", "()V"⟩, 78), (⟨"DocumentHouseModel", "meet", "(II)I"⟩, 78), (⟨"DocumentHouseModel", "into", "(I)V"⟩, 78), (⟨"DocumentHouseModel", "writeLoose", "()V"⟩, 78), (⟨"DocumentHouseModel", "come", "(II)V"⟩, 78), (⟨"DocumentHouseModel", "splice", "(II)V"⟩, 78), (⟨"DocumentHouseModel", "append", "()I"⟩, 78), (⟨"DocumentHouseModel", "pull", "(II)I"⟩, 78), (⟨"DocumentHouseModel", "make", "(II)I"⟩, 78)]
theorem lw_r23 : ∀ q ∈ lw_privs_23, lw_okq q := List.forall_mem_cons.mpr ⟨lw_p352, List.forall_mem_cons.mpr ⟨lw_p353, List.forall_mem_cons.mpr ⟨lw_p354, List.forall_mem_cons.mpr ⟨lw_p355, List.forall_mem_cons.mpr ⟨lw_p356, List.forall_mem_cons.mpr ⟨lw_p357, List.forall_mem_cons.mpr ⟨lw_p358, List.forall_mem_cons.mpr ⟨lw_p359, List.forall_mem_cons.mpr ⟨lw_p360, List.forall_mem_cons.mpr ⟨lw_p361, List.forall_mem_cons.mpr ⟨lw_p362, List.forall_mem_cons.mpr ⟨lw_p363, List.forall_mem_cons.mpr ⟨lw_p364, List.forall_mem_cons.mpr ⟨lw_p365, List.forall_mem_cons.mpr ⟨lw_p366, List.forall_mem_cons.mpr ⟨lw_p367, fun _ h => absurd h List.not_mem_nil⟩⟩⟩⟩⟩⟩⟩⟩⟩⟩⟩⟩⟩⟩⟩⟩
theorem lw_p368 : lw_okq (⟨"DocumentHouseModel", "add", "(II)I"⟩, 78) := ⟨⟨by decide +kernel, by decide +kernel⟩, List.mem_of_getElem? (i := 1703) (by decide +kernel), List.mem_of_getElem? (i := 2821) (by decide +kernel), List.mem_of_getElem? (i := 2822) (by decide +kernel)⟩
theorem lw_p369 : lw_okq (⟨"DocumentHouseModel", "push", "(IIZ)I"⟩, 78) := ⟨⟨by decide +kernel, by decide +kernel⟩, List.mem_of_getElem? (i := 1703) (by decide +kernel), List.mem_of_getElem? (i := 2825) (by decide +kernel), List.mem_of_getElem? (i := 2826) (by decide +kernel)⟩
theorem lw_p370 : lw_okq (⟨"DocumentHouseModel", "putFound", "(I)V"⟩, 78) := ⟨⟨by decide +kernel, by decide +kernel⟩, List.mem_of_getElem? (i := 1703) (by decide +kernel), List.mem_of_getElem? (i := 2830) (by decide +kernel), List.mem_of_getElem? (i := 2831) (by decide +kernel)⟩
theorem lw_p371 : lw_okq (⟨"DocumentHouseModel", "takeOut", "(I)V"⟩, 78) := ⟨⟨by decide +kernel, by decide +kernel⟩, List.mem_of_getElem? (i := 1703) (by decide +kernel), List.mem_of_getElem? (i := 2835) (by decide +kernel), List.mem_of_getElem? (i := 2836) (by decide +kernel)⟩
theorem lw_p372 : lw_okq (⟨"DocumentHouseModel", "isThereOne", "(II)Z"⟩, 78) := ⟨⟨by decide +kernel, by decide +kernel⟩, List.mem_of_getElem? (i := 1703) (by decide +kernel), List.mem_of_getElem? (i := 2853) (by decide +kernel), List.mem_of_getElem? (i := 2854) (by decide +kernel)⟩
def lw_privs_24 : List (MethodName × Nat) := [(⟨"DocumentHouseModel", "add", "(II)I"⟩, 78), (⟨"DocumentHouseModel", "push", "(IIZ)I"⟩, 78), (⟨"DocumentHouseModel", "putFound", "(I)V"⟩, 78), (⟨"DocumentHouseModel", "takeOut", "(I)V"⟩, 78), (⟨"DocumentHouseModel", "isThereOne", "(II)Z"⟩, 78)]
theorem lw_r24 : ∀ q ∈ lw_privs_24, lw_okq q := List.forall_mem_cons.mpr ⟨lw_p368, List.forall_mem_cons.mpr ⟨lw_p369, List.forall_mem_cons.mpr ⟨lw_p370, List.forall_mem_cons.mpr ⟨lw_p371, List.forall_mem_cons.mpr ⟨lw_p372, fun _ h => absurd h List.not_mem_nil⟩⟩⟩⟩⟩
def lw_privs : List (MethodName × Nat) := lw_privs_1 ++ (lw_privs_2 ++ (lw_privs_3 ++ (lw_privs_4 ++ (lw_privs_5 ++ (lw_privs_6 ++ (lw_privs_7 ++ (lw_privs_8 ++ (lw_privs_9 ++ (lw_privs_10 ++ (lw_privs_11 ++ (lw_privs_12 ++ (lw_privs_13 ++ (lw_privs_14 ++ (lw_privs_15 ++ (lw_privs_16 ++ (lw_privs_17 ++ (lw_privs_18 ++ (lw_privs_19 ++ (lw_privs_20 ++ (lw_privs_21 ++ (lw_privs_22 ++ (lw_privs_23 ++ (lw_privs_24)))))))))))))))))))))))
def lw_tbl : List Cond := k2_sels lw_privs ++ tables_1
theorem lw_privs_ok : ∀ q ∈ lw_privs, lw_okq q := by
  show ∀ q ∈ lw_privs_1 ++ (lw_privs_2 ++ (lw_privs_3 ++ (lw_privs_4 ++ (lw_privs_5 ++ (lw_privs_6 ++ (lw_privs_7 ++ (lw_privs_8 ++ (lw_privs_9 ++ (lw_privs_10 ++ (lw_privs_11 ++ (lw_privs_12 ++ (lw_privs_13 ++ (lw_privs_14 ++ (lw_privs_15 ++ (lw_privs_16 ++ (lw_privs_17 ++ (lw_privs_18 ++ (lw_privs_19 ++ (lw_privs_20 ++ (lw_privs_21 ++ (lw_privs_22 ++ (lw_privs_23 ++ (lw_privs_24))))))))))))))))))))))), lw_okq q
  exact List.forall_mem_append.mpr ⟨lw_r1, List.forall_mem_append.mpr ⟨lw_r2, List.forall_mem_append.mpr ⟨lw_r3, List.forall_mem_append.mpr ⟨lw_r4, List.forall_mem_append.mpr ⟨lw_r5, List.forall_mem_append.mpr ⟨lw_r6, List.forall_mem_append.mpr ⟨lw_r7, List.forall_mem_append.mpr ⟨lw_r8, List.forall_mem_append.mpr ⟨lw_r9, List.forall_mem_append.mpr ⟨lw_r10, List.forall_mem_append.mpr ⟨lw_r11, List.forall_mem_append.mpr ⟨lw_r12, List.forall_mem_append.mpr ⟨lw_r13, List.forall_mem_append.mpr ⟨lw_r14, List.forall_mem_append.mpr ⟨lw_r15, List.forall_mem_append.mpr ⟨lw_r16, List.forall_mem_append.mpr ⟨lw_r17, List.forall_mem_append.mpr ⟨lw_r18, List.forall_mem_append.mpr ⟨lw_r19, List.forall_mem_append.mpr ⟨lw_r20, List.forall_mem_append.mpr ⟨lw_r21, List.forall_mem_append.mpr ⟨lw_r22, List.forall_mem_append.mpr ⟨lw_r23, lw_r24⟩⟩⟩⟩⟩⟩⟩⟩⟩⟩⟩⟩⟩⟩⟩⟩⟩⟩⟩⟩⟩⟩⟩
-- ===== end of PART A; then your names; then what follows =====
end
section
def RX0 : String := "DocumentHouse$Bounds"
def TX0 : u_T := fun k => match k with
  | 0 => ("DocumentHouse$Bounds", "room", "LDocumentHouse$Room;", true)
  | 1 => ("DocumentHouse$Bounds", "b", "[B", true)
  | 2 => ("DocumentHouse$Bounds", "sets", "[[I", true)
  | 3 => ("DocumentHouse$Bounds", "counts", "[I", true)
  | 4 => ("DocumentHouse$Bounds", "rank", "I", false)
  | _ => ("DocumentHouse$Bounds", "ranges", "I", false)
def tyX0 : Nat → FieldType := fun k => match k with
  | 0 => .object "DocumentHouse$Room"
  | 1 => .array .byte
  | 2 => .array (.array .int)
  | 3 => .array .int
  | 4 => .int
  | _ => .int
theorem nmX0 : ∀ a, a < 6 → ∀ b, b < 6 → a ≠ b → (TX0 a).2.1 ≠ (TX0 b).2.1 := by decide +kernel
theorem tyX0_ok : ∀ k, k < 6 → parseFieldDescriptor (TX0 k).2.2.1 = some (tyX0 k) := by decide +kernel
abbrev cX0_init : ByteArray := prog_2_method_1_code
def yX0_init : MethodName := ⟨RX0, "<init>", "(LDocumentHouse$Room;)V"⟩
abbrev cX0_rankBy : ByteArray := prog_2_method_2_code
def yX0_rankBy : MethodName := ⟨RX0, "rankBy", "(ZZ)V"⟩
abbrev cX0_looksAt : ByteArray := prog_2_method_3_code
def yX0_looksAt : MethodName := ⟨RX0, "looksAt", "(LDocumentHouse$Index;LDocumentHouse$Shelf;)I"⟩
abbrev cX0_someIn : ByteArray := prog_2_method_4_code
def yX0_someIn : MethodName := ⟨RX0, "someIn", "(I[II)Z"⟩
abbrev cX0_isIn : ByteArray := prog_2_method_5_code
def yX0_isIn : MethodName := ⟨RX0, "isIn", "([III)Z"⟩
abbrev cX0_isPoints : ByteArray := prog_2_method_6_code
def yX0_isPoints : MethodName := ⟨RX0, "isPoints", "(I)Z"⟩
abbrev cX0_bind : ByteArray := prog_2_method_7_code
def yX0_bind : MethodName := ⟨RX0, "bind", "(ILDocumentHouse$Path;ZI)Z"⟩
abbrev cX0_bindSame : ByteArray := prog_2_method_8_code
def yX0_bindSame : MethodName := ⟨RX0, "bindSame", "(II)Z"⟩
abbrev cX0_collect : ByteArray := prog_2_method_9_code
def yX0_collect : MethodName := ⟨RX0, "collect", "(ILDocumentHouse$Path;I)V"⟩
abbrev cX0_bindElem : ByteArray := prog_2_method_10_code
def yX0_bindElem : MethodName := ⟨RX0, "bindElem", "(II)Z"⟩
abbrev cX0_bindOne : ByteArray := prog_2_method_11_code
def yX0_bindOne : MethodName := ⟨RX0, "bindOne", "(II)Z"⟩
abbrev cX0_bindSimple : ByteArray := prog_2_method_12_code
def yX0_bindSimple : MethodName := ⟨RX0, "bindSimple", "(III)Z"⟩
abbrev cX0_addPoint : ByteArray := prog_2_method_13_code
def yX0_addPoint : MethodName := ⟨RX0, "addPoint", "(II)V"⟩
abbrev cX0_addTo : ByteArray := prog_2_method_14_code
def yX0_addTo : MethodName := ⟨RX0, "addTo", "(IIIII)V"⟩
abbrev cX0_copy : ByteArray := prog_2_method_15_code
def yX0_copy : MethodName := ⟨RX0, "copy", "(II)V"⟩
abbrev cX0_meet : ByteArray := prog_2_method_16_code
def yX0_meet : MethodName := ⟨RX0, "meet", "(II)V"⟩
abbrev cX0_meetOne : ByteArray := prog_2_method_17_code
def yX0_meetOne : MethodName := ⟨RX0, "meetOne", "([II[II)V"⟩
def RX1 : String := "DocumentHouse$Change"
def TX1 : u_T := fun k => match k with
  | 0 => ("DocumentHouse$Change", "b", "[B", true)
  | 1 => ("DocumentHouse$Change", "path", "LDocumentHouse$Path;", true)
  | 2 => ("DocumentHouse$Change", "chain", "[I", true)
  | 3 => ("DocumentHouse$Change", "work", "LDocumentHouse$Out;", true)
  | 4 => ("DocumentHouse$Change", "links", "I", false)
  | 5 => ("DocumentHouse$Change", "end", "I", false)
  | 6 => ("DocumentHouse$Change", "changed", "Z", false)
  | 7 => ("DocumentHouse$Change", "fault", "I", false)
  | _ => ("DocumentHouse$Change", "place", "I", false)
def tyX1 : Nat → FieldType := fun k => match k with
  | 0 => .array .byte
  | 1 => .object "DocumentHouse$Path"
  | 2 => .array .int
  | 3 => .object "DocumentHouse$Out"
  | 4 => .int
  | 5 => .int
  | 6 => .boolean
  | 7 => .int
  | _ => .int
theorem nmX1 : ∀ a, a < 9 → ∀ b, b < 9 → a ≠ b → (TX1 a).2.1 ≠ (TX1 b).2.1 := by decide +kernel
theorem tyX1_ok : ∀ k, k < 9 → parseFieldDescriptor (TX1 k).2.2.1 = some (tyX1 k) := by decide +kernel
abbrev cX1_init : ByteArray := prog_3_method_1_code
def yX1_init : MethodName := ⟨RX1, "<init>", "([B)V"⟩
abbrev cX1_operatorOf : ByteArray := prog_3_method_2_code
def yX1_operatorOf : MethodName := ⟨RX1, "operatorOf", "([BI)I"⟩
abbrev cX1_fails : ByteArray := prog_3_method_3_code
def yX1_fails : MethodName := ⟨RX1, "fails", "(II)Z"⟩
abbrev cX1_isRight : ByteArray := prog_3_method_4_code
def yX1_isRight : MethodName := ⟨RX1, "isRight", "(I)Z"⟩
abbrev cX1_clashes : ByteArray := prog_3_method_5_code
def yX1_clashes : MethodName := ⟨RX1, "clashes", "(II)Z"⟩
abbrev cX1_oneBeginsOther : ByteArray := prog_3_method_6_code
def yX1_oneBeginsOther : MethodName := ⟨RX1, "oneBeginsOther", "(II)Z"⟩
abbrev cX1_does : ByteArray := prog_3_method_7_code
def yX1_does : MethodName := ⟨RX1, "does", "(II)Z"⟩
abbrev cX1_splice : ByteArray := prog_3_method_8_code
def yX1_splice : MethodName := ⟨RX1, "splice", "(III)Z"⟩
abbrev cX1_link : ByteArray := prog_3_method_9_code
def yX1_link : MethodName := ⟨RX1, "link", "(I)V"⟩
abbrev cX1_makes : ByteArray := prog_3_method_10_code
def yX1_makes : MethodName := ⟨RX1, "makes", "(II)I"⟩
abbrev cX1_behindOthers : ByteArray := prog_3_method_11_code
def yX1_behindOthers : MethodName := ⟨RX1, "behindOthers", "()I"⟩
abbrev cX1_makeDocument : ByteArray := prog_3_method_12_code
def yX1_makeDocument : MethodName := ⟨RX1, "makeDocument", "(I)I"⟩
abbrev cX1_comesFree : ByteArray := prog_3_method_13_code
def yX1_comesFree : MethodName := ⟨RX1, "comesFree", "(III)I"⟩
abbrev cX1_comesTo : ByteArray := prog_3_method_14_code
def yX1_comesTo : MethodName := ⟨RX1, "comesTo", "(III)I"⟩
abbrev cX1_digits : ByteArray := prog_3_method_15_code
def yX1_digits : MethodName := ⟨RX1, "digits", "(I)I"⟩
abbrev cX1_replace : ByteArray := prog_3_method_16_code
def yX1_replace : MethodName := ⟨RX1, "replace", "(II)I"⟩
abbrev cX1_add : ByteArray := prog_3_method_17_code
def yX1_add : MethodName := ⟨RX1, "add", "(II)I"⟩
abbrev cX1_takes : ByteArray := prog_3_method_18_code
def yX1_takes : MethodName := ⟨RX1, "takes", "(II)I"⟩
abbrev cX1_unset : ByteArray := prog_3_method_19_code
def yX1_unset : MethodName := ⟨RX1, "unset", "(I)V"⟩
abbrev cX1_pull : ByteArray := prog_3_method_20_code
def yX1_pull : MethodName := ⟨RX1, "pull", "(II)I"⟩
def RX2 : String := "DocumentHouse$Filter"
def TX2 : u_T := fun k => match k with
  | 0 => ("DocumentHouse$Filter", "room", "LDocumentHouse$Room;", true)
  | 1 => ("DocumentHouse$Filter", "b", "[B", true)
  | 2 => ("DocumentHouse$Filter", "path", "LDocumentHouse$Path;", true)
  | 3 => ("DocumentHouse$Filter", "elements", "I", false)
  | 4 => ("DocumentHouse$Filter", "fault", "I", false)
  | _ => ("DocumentHouse$Filter", "place", "I", false)
def tyX2 : Nat → FieldType := fun k => match k with
  | 0 => .object "DocumentHouse$Room"
  | 1 => .array .byte
  | 2 => .object "DocumentHouse$Path"
  | 3 => .int
  | 4 => .int
  | _ => .int
theorem nmX2 : ∀ a, a < 6 → ∀ b, b < 6 → a ≠ b → (TX2 a).2.1 ≠ (TX2 b).2.1 := by decide +kernel
theorem tyX2_ok : ∀ k, k < 6 → parseFieldDescriptor (TX2 k).2.2.1 = some (tyX2 k) := by decide +kernel
abbrev cX2_init : ByteArray := prog_4_method_1_code
def yX2_init : MethodName := ⟨RX2, "<init>", "(LDocumentHouse$Room;)V"⟩
abbrev cX2_conditionOf : ByteArray := prog_4_method_2_code
def yX2_conditionOf : MethodName := ⟨RX2, "conditionOf", "([BI)I"⟩
abbrev cX2_isLogic : ByteArray := prog_4_method_3_code
def yX2_isLogic : MethodName := ⟨RX2, "isLogic", "([BI)Z"⟩
abbrev cX2_isConditions : ByteArray := prog_4_method_4_code
def yX2_isConditions : MethodName := ⟨RX2, "isConditions", "([BI)Z"⟩
abbrev cX2_isConditionsOfItem : ByteArray := prog_4_method_5_code
def yX2_isConditionsOfItem : MethodName := ⟨RX2, "isConditionsOfItem", "([BI)Z"⟩
abbrev cX2_isRight : ByteArray := prog_4_method_6_code
def yX2_isRight : MethodName := ⟨RX2, "isRight", "(I)Z"⟩
abbrev cX2_fails : ByteArray := prog_4_method_7_code
def yX2_fails : MethodName := ⟨RX2, "fails", "(II)Z"⟩
abbrev cX2_counts : ByteArray := prog_4_method_8_code
def yX2_counts : MethodName := ⟨RX2, "counts", "(II)Z"⟩
abbrev cX2_filterIsRight : ByteArray := prog_4_method_9_code
def yX2_filterIsRight : MethodName := ⟨RX2, "filterIsRight", "(II)Z"⟩
abbrev cX2_elementIsRight : ByteArray := prog_4_method_10_code
def yX2_elementIsRight : MethodName := ⟨RX2, "elementIsRight", "(II)Z"⟩
abbrev cX2_logicIsRight : ByteArray := prog_4_method_11_code
def yX2_logicIsRight : MethodName := ⟨RX2, "logicIsRight", "(II)Z"⟩
abbrev cX2_conditionsAreRight : ByteArray := prog_4_method_12_code
def yX2_conditionsAreRight : MethodName := ⟨RX2, "conditionsAreRight", "(II)Z"⟩
abbrev cX2_conditionIsRight : ByteArray := prog_4_method_13_code
def yX2_conditionIsRight : MethodName := ⟨RX2, "conditionIsRight", "(II)Z"⟩
abbrev cX2_valueIsRight : ByteArray := prog_4_method_14_code
def yX2_valueIsRight : MethodName := ⟨RX2, "valueIsRight", "(II)Z"⟩
abbrev cX2_holds : ByteArray := prog_4_method_15_code
def yX2_holds : MethodName := ⟨RX2, "holds", "(III)Z"⟩
abbrev cX2_elementHolds : ByteArray := prog_4_method_16_code
def yX2_elementHolds : MethodName := ⟨RX2, "elementHolds", "(III)Z"⟩
abbrev cX2_logicHolds : ByteArray := prog_4_method_17_code
def yX2_logicHolds : MethodName := ⟨RX2, "logicHolds", "(III)Z"⟩
abbrev cX2_conditionsHold : ByteArray := prog_4_method_18_code
def yX2_conditionsHold : MethodName := ⟨RX2, "conditionsHold", "(IIII)Z"⟩
abbrev cX2_conditionHolds : ByteArray := prog_4_method_19_code
def yX2_conditionHolds : MethodName := ⟨RX2, "conditionHolds", "(IIII)Z"⟩
abbrev cX2_someIs : ByteArray := prog_4_method_20_code
def yX2_someIs : MethodName := ⟨RX2, "someIs", "(III)Z"⟩
abbrev cX2_someIsIn : ByteArray := prog_4_method_21_code
def yX2_someIsIn : MethodName := ⟨RX2, "someIsIn", "(III)Z"⟩
abbrev cX2_someIsSo : ByteArray := prog_4_method_22_code
def yX2_someIsSo : MethodName := ⟨RX2, "someIsSo", "(IIII)Z"⟩
abbrev cX2_isSo : ByteArray := prog_4_method_23_code
def yX2_isSo : MethodName := ⟨RX2, "isSo", "(III)Z"⟩
abbrev cX2_someExists : ByteArray := prog_4_method_24_code
def yX2_someExists : MethodName := ⟨RX2, "someExists", "(II)Z"⟩
abbrev cX2_someCounts : ByteArray := prog_4_method_25_code
def yX2_someCounts : MethodName := ⟨RX2, "someCounts", "(JII)Z"⟩
abbrev cX2_someHasItem : ByteArray := prog_4_method_26_code
def yX2_someHasItem : MethodName := ⟨RX2, "someHasItem", "(IIII)Z"⟩
abbrev cX2_conditionsHoldForItem : ByteArray := prog_4_method_27_code
def yX2_conditionsHoldForItem : MethodName := ⟨RX2, "conditionsHoldForItem", "(III)Z"⟩
def RX3 : String := "DocumentHouse$Index"
def TX3 : u_T := fun k => match k with
  | 0 => ("DocumentHouse$Index", "room", "LDocumentHouse$Room;", true)
  | 1 => ("DocumentHouse$Index", "b", "[B", true)
  | 2 => ("DocumentHouse$Index", "first", "LDocumentHouse$Path;", true)
  | 3 => ("DocumentHouse$Index", "second", "LDocumentHouse$Path;", true)
  | 4 => ("DocumentHouse$Index", "tree", "LDocumentHouse$Tree;", true)
  | 5 => ("DocumentHouse$Index", "firstKeys", "[I", true)
  | 6 => ("DocumentHouse$Index", "secondKeys", "[I", true)
  | 7 => ("DocumentHouse$Index", "firstCount", "I", false)
  | 8 => ("DocumentHouse$Index", "secondCount", "I", false)
  | 9 => ("DocumentHouse$Index", "stands", "Z", false)
  | 10 => ("DocumentHouse$Index", "hasSecond", "Z", false)
  | 11 => ("DocumentHouse$Index", "firstMany", "Z", false)
  | 12 => ("DocumentHouse$Index", "secondMany", "Z", false)
  | _ => ("DocumentHouse$Index", "tooLong", "Z", false)
def tyX3 : Nat → FieldType := fun k => match k with
  | 0 => .object "DocumentHouse$Room"
  | 1 => .array .byte
  | 2 => .object "DocumentHouse$Path"
  | 3 => .object "DocumentHouse$Path"
  | 4 => .object "DocumentHouse$Tree"
  | 5 => .array .int
  | 6 => .array .int
  | 7 => .int
  | 8 => .int
  | 9 => .boolean
  | 10 => .boolean
  | 11 => .boolean
  | 12 => .boolean
  | _ => .boolean
theorem nmX3 : ∀ a, a < 14 → ∀ b, b < 14 → a ≠ b → (TX3 a).2.1 ≠ (TX3 b).2.1 := by decide +kernel
theorem tyX3_ok : ∀ k, k < 14 → parseFieldDescriptor (TX3 k).2.2.1 = some (tyX3 k) := by decide +kernel
abbrev cX3_init : ByteArray := prog_5_method_1_code
def yX3_init : MethodName := ⟨RX3, "<init>", "(LDocumentHouse$Room;)V"⟩
abbrev cX3_prepare : ByteArray := prog_5_method_2_code
def yX3_prepare : MethodName := ⟨RX3, "prepare", "(II)V"⟩
abbrev cX3_takePath : ByteArray := prog_5_method_3_code
def yX3_takePath : MethodName := ⟨RX3, "takePath", "(LDocumentHouse$Path;I)V"⟩
abbrev cX3_fitsAll : ByteArray := prog_5_method_4_code
def yX3_fitsAll : MethodName := ⟨RX3, "fitsAll", "([II)Z"⟩
abbrev cX3_fitsAnother : ByteArray := prog_5_method_5_code
def yX3_fitsAnother : MethodName := ⟨RX3, "fitsAnother", "(I)Z"⟩
abbrev cX3_entriesOf : ByteArray := prog_5_method_6_code
def yX3_entriesOf : MethodName := ⟨RX3, "entriesOf", "(I)I"⟩
abbrev cX3_keysOf : ByteArray := prog_5_method_7_code
def yX3_keysOf : MethodName := ⟨RX3, "keysOf", "(LDocumentHouse$Path;I[II)I"⟩
abbrev cX3_addKey : ByteArray := prog_5_method_8_code
def yX3_addKey : MethodName := ⟨RX3, "addKey", "([IIII)I"⟩
abbrev cX3_takesIn : ByteArray := prog_5_method_9_code
def yX3_takesIn : MethodName := ⟨RX3, "takesIn", "(LDocumentHouse$Shelf;[Z)V"⟩
abbrev cX3_takesOut : ByteArray := prog_5_method_10_code
def yX3_takesOut : MethodName := ⟨RX3, "takesOut", "(LDocumentHouse$Shelf;[Z)V"⟩
def RX4 : String := "DocumentHouse$Out"
def TX4 : u_T := fun k => match k with
  | 0 => ("DocumentHouse$Out", "b", "[B", true)
  | 1 => ("DocumentHouse$Out", "at", "I", false)
  | 2 => ("DocumentHouse$Out", "limit", "I", false)
  | _ => ("DocumentHouse$Out", "over", "Z", false)
def tyX4 : Nat → FieldType := fun k => match k with
  | 0 => .array .byte
  | 1 => .int
  | 2 => .int
  | _ => .boolean
theorem nmX4 : ∀ a, a < 4 → ∀ b, b < 4 → a ≠ b → (TX4 a).2.1 ≠ (TX4 b).2.1 := by decide +kernel
theorem tyX4_ok : ∀ k, k < 4 → parseFieldDescriptor (TX4 k).2.2.1 = some (tyX4 k) := by decide +kernel
abbrev cX4_init : ByteArray := prog_6_method_1_code
def yX4_init : MethodName := ⟨RX4, "<init>", "([BII)V"⟩
abbrev cX4_start : ByteArray := prog_6_method_2_code
def yX4_start : MethodName := ⟨RX4, "start", "(II)V"⟩
abbrev cX4_put : ByteArray := prog_6_method_3_code
def yX4_put : MethodName := ⟨RX4, "put", "(I)V"⟩
abbrev cX4_put4 : ByteArray := prog_6_method_4_code
def yX4_put4 : MethodName := ⟨RX4, "put4", "(I)V"⟩
abbrev cX4_put8 : ByteArray := prog_6_method_5_code
def yX4_put8 : MethodName := ⟨RX4, "put8", "(J)V"⟩
abbrev cX4_patch : ByteArray := prog_6_method_6_code
def yX4_patch : MethodName := ⟨RX4, "patch", "(II)V"⟩
abbrev cX4_copy : ByteArray := prog_6_method_7_code
def yX4_copy : MethodName := ⟨RX4, "copy", "([BII)V"⟩
abbrev cX4_head : ByteArray := prog_6_method_8_code
def yX4_head : MethodName := ⟨RX4, "head", "(ILjava/lang/String;)V"⟩
abbrev cX4_headOf : ByteArray := prog_6_method_9_code
def yX4_headOf : MethodName := ⟨RX4, "headOf", "(I[BII)V"⟩
abbrev cX4_item : ByteArray := prog_6_method_10_code
def yX4_item : MethodName := ⟨RX4, "item", "(II)V"⟩
abbrev cX4_value : ByteArray := prog_6_method_11_code
def yX4_value : MethodName := ⟨RX4, "value", "([BI)V"⟩
abbrev cX4_open : ByteArray := prog_6_method_12_code
def yX4_open : MethodName := ⟨RX4, "open", "()I"⟩
abbrev cX4_close : ByteArray := prog_6_method_13_code
def yX4_close : MethodName := ⟨RX4, "close", "(I)V"⟩
abbrev cX4_named : ByteArray := prog_6_method_14_code
def yX4_named : MethodName := ⟨RX4, "named", "(Ljava/lang/String;I)V"⟩
abbrev cX4_namedTruth : ByteArray := prog_6_method_15_code
def yX4_namedTruth : MethodName := ⟨RX4, "namedTruth", "(Ljava/lang/String;Z)V"⟩
def RX5 : String := "DocumentHouse$Path"
def TX5 : u_T := fun k => match k with
  | 0 => ("DocumentHouse$Path", "b", "[B", false)
  | 1 => ("DocumentHouse$Path", "from", "[I", true)
  | 2 => ("DocumentHouse$Path", "to", "[I", true)
  | 3 => ("DocumentHouse$Path", "steps", "I", false)
  | _ => ("DocumentHouse$Path", "dollar", "Z", false)
def tyX5 : Nat → FieldType := fun k => match k with
  | 0 => .array .byte
  | 1 => .array .int
  | 2 => .array .int
  | 3 => .int
  | _ => .boolean
theorem nmX5 : ∀ a, a < 5 → ∀ b, b < 5 → a ≠ b → (TX5 a).2.1 ≠ (TX5 b).2.1 := by decide +kernel
theorem tyX5_ok : ∀ k, k < 5 → parseFieldDescriptor (TX5 k).2.2.1 = some (tyX5 k) := by decide +kernel
abbrev cX5_init : ByteArray := prog_7_method_1_code
def yX5_init : MethodName := ⟨RX5, "<init>", "()V"⟩
abbrev cX5_set : ByteArray := prog_7_method_2_code
def yX5_set : MethodName := ⟨RX5, "set", "([BII)Z"⟩
abbrev cX5_setName : ByteArray := prog_7_method_3_code
def yX5_setName : MethodName := ⟨RX5, "setName", "([BI)Z"⟩
abbrev cX5_setPlainText : ByteArray := prog_7_method_4_code
def yX5_setPlainText : MethodName := ⟨RX5, "setPlainText", "([BII)Z"⟩
abbrev cX5_isNameOf : ByteArray := prog_7_method_5_code
def yX5_isNameOf : MethodName := ⟨RX5, "isNameOf", "([BI)Z"⟩
abbrev cX5_walk : ByteArray := prog_7_method_6_code
def yX5_walk : MethodName := ⟨RX5, "walk", "(LDocumentHouse$Room;III)V"⟩
def RX6 : String := "DocumentHouse$Reader"
def TX6 : u_T := fun k => match k with
  | 0 => ("DocumentHouse$Reader", "b", "[B", true)
  | 1 => ("DocumentHouse$Reader", "fault", "I", false)
  | _ => ("DocumentHouse$Reader", "place", "I", false)
def tyX6 : Nat → FieldType := fun k => match k with
  | 0 => .array .byte
  | 1 => .int
  | _ => .int
theorem nmX6 : ∀ a, a < 3 → ∀ b, b < 3 → a ≠ b → (TX6 a).2.1 ≠ (TX6 b).2.1 := by decide +kernel
theorem tyX6_ok : ∀ k, k < 3 → parseFieldDescriptor (TX6 k).2.2.1 = some (tyX6 k) := by decide +kernel
abbrev cX6_init : ByteArray := prog_8_method_1_code
def yX6_init : MethodName := ⟨RX6, "<init>", "([B)V"⟩
abbrev cX6_reads : ByteArray := prog_8_method_2_code
def yX6_reads : MethodName := ⟨RX6, "reads", "(I)Z"⟩
abbrev cX6_fails : ByteArray := prog_8_method_3_code
def yX6_fails : MethodName := ⟨RX6, "fails", "(II)I"⟩
abbrev cX6_document : ByteArray := prog_8_method_4_code
def yX6_document : MethodName := ⟨RX6, "document", "(IIII)I"⟩
abbrev cX6_element : ByteArray := prog_8_method_5_code
def yX6_element : MethodName := ⟨RX6, "element", "(IIIII)I"⟩
abbrev cX6_stoodAhead : ByteArray := prog_8_method_6_code
def yX6_stoodAhead : MethodName := ⟨RX6, "stoodAhead", "(III)Z"⟩
abbrev cX6_value : ByteArray := prog_8_method_7_code
def yX6_value : MethodName := ⟨RX6, "value", "(IIII)I"⟩
abbrev cX6_text : ByteArray := prog_8_method_8_code
def yX6_text : MethodName := ⟨RX6, "text", "(II)I"⟩
def RX7 : String := "DocumentHouse$Room"
def TX7 : u_T := fun k => match k with
  | 0 => ("DocumentHouse$Room", "bytes", "[B", true)
  | 1 => ("DocumentHouse$Room", "pile", "[I", false)
  | _ => ("DocumentHouse$Room", "top", "I", false)
def tyX7 : Nat → FieldType := fun k => match k with
  | 0 => .array .byte
  | 1 => .array .int
  | _ => .int
theorem nmX7 : ∀ a, a < 3 → ∀ b, b < 3 → a ≠ b → (TX7 a).2.1 ≠ (TX7 b).2.1 := by decide +kernel
theorem tyX7_ok : ∀ k, k < 3 → parseFieldDescriptor (TX7 k).2.2.1 = some (tyX7 k) := by decide +kernel
abbrev cX7_init : ByteArray := prog_9_method_1_code
def yX7_init : MethodName := ⟨RX7, "<init>", "()V"⟩
abbrev cX7_push : ByteArray := prog_9_method_2_code
def yX7_push : MethodName := ⟨RX7, "push", "(I)V"⟩
abbrev cX7_leaf : ByteArray := prog_9_method_3_code
def yX7_leaf : MethodName := ⟨RX7, "leaf", "(I)I"⟩
abbrev cX7_put : ByteArray := prog_9_method_4_code
def yX7_put : MethodName := ⟨RX7, "put", "(II)V"⟩
abbrev cX7_addItems : ByteArray := prog_9_method_5_code
def yX7_addItems : MethodName := ⟨RX7, "addItems", "(II)V"⟩
abbrev cX7_kind : ByteArray := prog_9_method_6_code
def yX7_kind : MethodName := ⟨RX7, "kind", "([BI)I"⟩
abbrev cX7_whole4 : ByteArray := prog_9_method_7_code
def yX7_whole4 : MethodName := ⟨RX7, "whole4", "([BI)I"⟩
abbrev cX7_valueAt : ByteArray := prog_9_method_8_code
def yX7_valueAt : MethodName := ⟨RX7, "valueAt", "([BI)I"⟩
abbrev cX7_next : ByteArray := prog_9_method_9_code
def yX7_next : MethodName := ⟨RX7, "next", "([BI)I"⟩
abbrev cX7_first : ByteArray := prog_9_method_10_code
def yX7_first : MethodName := ⟨RX7, "first", "([BI)I"⟩
abbrev cX7_items : ByteArray := prog_9_method_11_code
def yX7_items : MethodName := ⟨RX7, "items", "([BI)I"⟩
abbrev cX7_find : ByteArray := prog_9_method_12_code
def yX7_find : MethodName := ⟨RX7, "find", "([BI[BII)I"⟩
abbrev cX7_named : ByteArray := prog_9_method_13_code
def yX7_named : MethodName := ⟨RX7, "named", "([BILjava/lang/String;)Z"⟩
abbrev cX7_beginsWithDollar : ByteArray := prog_9_method_14_code
def yX7_beginsWithDollar : MethodName := ⟨RX7, "beginsWithDollar", "([BI)Z"⟩
abbrev cX7_isNumber : ByteArray := prog_9_method_15_code
def yX7_isNumber : MethodName := ⟨RX7, "isNumber", "([BI)Z"⟩
abbrev cX7_whole : ByteArray := prog_9_method_16_code
def yX7_whole : MethodName := ⟨RX7, "whole", "([BI)J"⟩
abbrev cX7_isTruth : ByteArray := prog_9_method_17_code
def yX7_isTruth : MethodName := ⟨RX7, "isTruth", "([BII)Z"⟩
abbrev cX7_classOf : ByteArray := prog_9_method_18_code
def yX7_classOf : MethodName := ⟨RX7, "classOf", "([BI)I"⟩
abbrev cX7_compare : ByteArray := prog_9_method_19_code
def yX7_compare : MethodName := ⟨RX7, "compare", "([BI[BII)I"⟩
abbrev cX7_compareInside : ByteArray := prog_9_method_20_code
def yX7_compareInside : MethodName := ⟨RX7, "compareInside", "([BI[BII)I"⟩
abbrev cX7_compareRuns : ByteArray := prog_9_method_21_code
def yX7_compareRuns : MethodName := ⟨RX7, "compareRuns", "([BII[BII)I"⟩
abbrev cX7_deepest : ByteArray := prog_9_method_22_code
def yX7_deepest : MethodName := ⟨RX7, "deepest", "([BII)I"⟩
abbrev cX7_isDecimal : ByteArray := prog_9_method_23_code
def yX7_isDecimal : MethodName := ⟨RX7, "isDecimal", "([BIII)Z"⟩
abbrev cX7_badCharacter : ByteArray := prog_9_method_24_code
def yX7_badCharacter : MethodName := ⟨RX7, "badCharacter", "([BII)I"⟩
abbrev cX7_characterLength : ByteArray := prog_9_method_25_code
def yX7_characterLength : MethodName := ⟨RX7, "characterLength", "([BII)I"⟩
def RX8 : String := "DocumentHouse$Shelf"
def TX8 : u_T := fun k => match k with
  | 0 => ("DocumentHouse$Shelf", "b", "[B", true)
  | 1 => ("DocumentHouse$Shelf", "base", "I", true)
  | 2 => ("DocumentHouse$Shelf", "at", "[I", true)
  | 3 => ("DocumentHouse$Shelf", "numbers", "[I", true)
  | 4 => ("DocumentHouse$Shelf", "indexes", "[LDocumentHouse$Index;", true)
  | 5 => ("DocumentHouse$Shelf", "renewing", "LDocumentHouse$Out;", true)
  | 6 => ("DocumentHouse$Shelf", "count", "I", false)
  | 7 => ("DocumentHouse$Shelf", "total", "I", false)
  | 8 => ("DocumentHouse$Shelf", "given", "I", false)
  | _ => ("DocumentHouse$Shelf", "end", "I", false)
def tyX8 : Nat → FieldType := fun k => match k with
  | 0 => .array .byte
  | 1 => .int
  | 2 => .array .int
  | 3 => .array .int
  | 4 => .array (.object "DocumentHouse$Index")
  | 5 => .object "DocumentHouse$Out"
  | 6 => .int
  | 7 => .int
  | 8 => .int
  | _ => .int
theorem nmX8 : ∀ a, a < 10 → ∀ b, b < 10 → a ≠ b → (TX8 a).2.1 ≠ (TX8 b).2.1 := by decide +kernel
theorem tyX8_ok : ∀ k, k < 10 → parseFieldDescriptor (TX8 k).2.2.1 = some (tyX8 k) := by decide +kernel
abbrev cX8_init : ByteArray := prog_10_method_1_code
def yX8_init : MethodName := ⟨RX8, "<init>", "(LDocumentHouse$Room;I)V"⟩
abbrev cX8_add : ByteArray := prog_10_method_2_code
def yX8_add : MethodName := ⟨RX8, "add", "(I)I"⟩
abbrev cX8_remove : ByteArray := prog_10_method_3_code
def yX8_remove : MethodName := ⟨RX8, "remove", "([Z)V"⟩
abbrev cX8_renew : ByteArray := prog_10_method_4_code
def yX8_renew : MethodName := ⟨RX8, "renew", "([I)V"⟩
abbrev cX8_indexCount : ByteArray := prog_10_method_5_code
def yX8_indexCount : MethodName := ⟨RX8, "indexCount", "()I"⟩
abbrev cX8_freeIndex : ByteArray := prog_10_method_6_code
def yX8_freeIndex : MethodName := ⟨RX8, "freeIndex", "()I"⟩
def RX9 : String := "DocumentHouse$Stages"
def TX9 : u_T := fun k => match k with
  | 0 => ("DocumentHouse$Stages", "room", "LDocumentHouse$Room;", true)
  | 1 => ("DocumentHouse$Stages", "b", "[B", true)
  | 2 => ("DocumentHouse$Stages", "path", "LDocumentHouse$Path;", true)
  | 3 => ("DocumentHouse$Stages", "therePath", "LDocumentHouse$Path;", true)
  | 4 => ("DocumentHouse$Stages", "out", "LDocumentHouse$Out;", true)
  | 5 => ("DocumentHouse$Stages", "scratch", "LDocumentHouse$Out;", true)
  | 6 => ("DocumentHouse$Stages", "belt", "[I", true)
  | 7 => ("DocumentHouse$Stages", "fresh", "[I", true)
  | 8 => ("DocumentHouse$Stages", "keys", "[I", true)
  | 9 => ("DocumentHouse$Stages", "groups", "[I", true)
  | 10 => ("DocumentHouse$Stages", "values", "[I", true)
  | 11 => ("DocumentHouse$Stages", "sortKeys", "[[I", true)
  | 12 => ("DocumentHouse$Stages", "ways", "[I", true)
  | 13 => ("DocumentHouse$Stages", "other", "LDocumentHouse$Shelf;", false)
  | 14 => ("DocumentHouse$Stages", "count", "I", false)
  | 15 => ("DocumentHouse$Stages", "freshCount", "I", false)
  | 16 => ("DocumentHouse$Stages", "freshBytes", "I", false)
  | 17 => ("DocumentHouse$Stages", "region", "I", false)
  | 18 => ("DocumentHouse$Stages", "tooMuch", "Z", false)
  | _ => ("DocumentHouse$Stages", "sumTooBig", "Z", false)
def tyX9 : Nat → FieldType := fun k => match k with
  | 0 => .object "DocumentHouse$Room"
  | 1 => .array .byte
  | 2 => .object "DocumentHouse$Path"
  | 3 => .object "DocumentHouse$Path"
  | 4 => .object "DocumentHouse$Out"
  | 5 => .object "DocumentHouse$Out"
  | 6 => .array .int
  | 7 => .array .int
  | 8 => .array .int
  | 9 => .array .int
  | 10 => .array .int
  | 11 => .array (.array .int)
  | 12 => .array .int
  | 13 => .object "DocumentHouse$Shelf"
  | 14 => .int
  | 15 => .int
  | 16 => .int
  | 17 => .int
  | 18 => .boolean
  | _ => .boolean
theorem nmX9 : ∀ a, a < 20 → ∀ b, b < 20 → a ≠ b → (TX9 a).2.1 ≠ (TX9 b).2.1 := by decide +kernel
theorem tyX9_ok : ∀ k, k < 20 → parseFieldDescriptor (TX9 k).2.2.1 = some (tyX9 k) := by decide +kernel
abbrev cX9_init : ByteArray := prog_11_method_1_code
def yX9_init : MethodName := ⟨RX9, "<init>", "(LDocumentHouse$Room;)V"⟩
abbrev cX9_begin : ByteArray := prog_11_method_2_code
def yX9_begin : MethodName := ⟨RX9, "begin", "(LDocumentHouse$Shelf;LDocumentHouse$Shelf;)V"⟩
abbrev cX9_isMatch : ByteArray := prog_11_method_3_code
def yX9_isMatch : MethodName := ⟨RX9, "isMatch", "(I)Z"⟩
abbrev cX9_match : ByteArray := prog_11_method_4_code
def yX9_match : MethodName := ⟨RX9, "match", "(LDocumentHouse$Filter;I)V"⟩
abbrev cX9_stageOf : ByteArray := prog_11_method_5_code
def yX9_stageOf : MethodName := ⟨RX9, "stageOf", "([BI)I"⟩
abbrev cX9_does : ByteArray := prog_11_method_6_code
def yX9_does : MethodName := ⟨RX9, "does", "(I)I"⟩
abbrev cX9_beginFresh : ByteArray := prog_11_method_7_code
def yX9_beginFresh : MethodName := ⟨RX9, "beginFresh", "()V"⟩
abbrev cX9_openDocument : ByteArray := prog_11_method_8_code
def yX9_openDocument : MethodName := ⟨RX9, "openDocument", "()I"⟩
abbrev cX9_closeDocument : ByteArray := prog_11_method_9_code
def yX9_closeDocument : MethodName := ⟨RX9, "closeDocument", "(I)V"⟩
abbrev cX9_finishDocument : ByteArray := prog_11_method_10_code
def yX9_finishDocument : MethodName := ⟨RX9, "finishDocument", "(I)V"⟩
abbrev cX9_endFresh : ByteArray := prog_11_method_11_code
def yX9_endFresh : MethodName := ⟨RX9, "endFresh", "()I"⟩
abbrev cX9_isPlain : ByteArray := prog_11_method_12_code
def yX9_isPlain : MethodName := ⟨RX9, "isPlain", "(II)Z"⟩
abbrev cX9_hasPlainName : ByteArray := prog_11_method_13_code
def yX9_hasPlainName : MethodName := ⟨RX9, "hasPlainName", "(I)Z"⟩
abbrev cX9_isDollarText : ByteArray := prog_11_method_14_code
def yX9_isDollarText : MethodName := ⟨RX9, "isDollarText", "(I)Z"⟩
abbrev cX9_isWrongExpression : ByteArray := prog_11_method_15_code
def yX9_isWrongExpression : MethodName := ⟨RX9, "isWrongExpression", "(I)Z"⟩
abbrev cX9_valueOf : ByteArray := prog_11_method_16_code
def yX9_valueOf : MethodName := ⟨RX9, "valueOf", "(II)I"⟩
abbrev cX9_writeRow : ByteArray := prog_11_method_17_code
def yX9_writeRow : MethodName := ⟨RX9, "writeRow", "(III)V"⟩
abbrev cX9_wrongInProject : ByteArray := prog_11_method_18_code
def yX9_wrongInProject : MethodName := ⟨RX9, "wrongInProject", "(I)I"⟩
abbrev cX9_project : ByteArray := prog_11_method_19_code
def yX9_project : MethodName := ⟨RX9, "project", "(I)I"⟩
abbrev cX9_unwind : ByteArray := prog_11_method_20_code
def yX9_unwind : MethodName := ⟨RX9, "unwind", "(I)I"⟩
abbrev cX9_unwindItem : ByteArray := prog_11_method_21_code
def yX9_unwindItem : MethodName := ⟨RX9, "unwindItem", "(III)V"⟩
abbrev cX9_accumulatorOf : ByteArray := prog_11_method_22_code
def yX9_accumulatorOf : MethodName := ⟨RX9, "accumulatorOf", "([BI)I"⟩
abbrev cX9_wrongInGroup : ByteArray := prog_11_method_23_code
def yX9_wrongInGroup : MethodName := ⟨RX9, "wrongInGroup", "(I)I"⟩
abbrev cX9_group : ByteArray := prog_11_method_24_code
def yX9_group : MethodName := ⟨RX9, "group", "(I)I"⟩
abbrev cX9_writeGathered : ByteArray := prog_11_method_25_code
def yX9_writeGathered : MethodName := ⟨RX9, "writeGathered", "(II)V"⟩
abbrev cX9_sum : ByteArray := prog_11_method_26_code
def yX9_sum : MethodName := ⟨RX9, "sum", "(I)J"⟩
abbrev cX9_extreme : ByteArray := prog_11_method_27_code
def yX9_extreme : MethodName := ⟨RX9, "extreme", "(II)I"⟩
abbrev cX9_writeValues : ByteArray := prog_11_method_28_code
def yX9_writeValues : MethodName := ⟨RX9, "writeValues", "(IZ)V"⟩
abbrev cX9_wrongInSort : ByteArray := prog_11_method_29_code
def yX9_wrongInSort : MethodName := ⟨RX9, "wrongInSort", "(I)I"⟩
abbrev cX9_sort : ByteArray := prog_11_method_30_code
def yX9_sort : MethodName := ⟨RX9, "sort", "(I)I"⟩
abbrev cX9_sortKey : ByteArray := prog_11_method_31_code
def yX9_sortKey : MethodName := ⟨RX9, "sortKey", "(II)I"⟩
abbrev cX9_compareSorted : ByteArray := prog_11_method_32_code
def yX9_compareSorted : MethodName := ⟨RX9, "compareSorted", "(III)I"⟩
abbrev cX9_skip : ByteArray := prog_11_method_33_code
def yX9_skip : MethodName := ⟨RX9, "skip", "(I)I"⟩
abbrev cX9_limit : ByteArray := prog_11_method_34_code
def yX9_limit : MethodName := ⟨RX9, "limit", "(I)I"⟩
abbrev cX9_wrongInLookup : ByteArray := prog_11_method_35_code
def yX9_wrongInLookup : MethodName := ⟨RX9, "wrongInLookup", "(IIII)I"⟩
abbrev cX9_lookup : ByteArray := prog_11_method_36_code
def yX9_lookup : MethodName := ⟨RX9, "lookup", "(I)I"⟩
abbrev cX9_writeFound : ByteArray := prog_11_method_37_code
def yX9_writeFound : MethodName := ⟨RX9, "writeFound", "(I)V"⟩
abbrev cX9_someSame : ByteArray := prog_11_method_38_code
def yX9_someSame : MethodName := ⟨RX9, "someSame", "(II)Z"⟩
def RX10 : String := "DocumentHouse$Tree"
def TX10 : u_T := fun k => match k with
  | 0 => ("DocumentHouse$Tree", "keys", "[B", false)
  | 1 => ("DocumentHouse$Tree", "numbers", "[I", false)
  | 2 => ("DocumentHouse$Tree", "freeSlots", "[I", false)
  | 3 => ("DocumentHouse$Tree", "freeSlotCount", "I", false)
  | 4 => ("DocumentHouse$Tree", "kids", "[I", false)
  | 5 => ("DocumentHouse$Tree", "marks", "[I", false)
  | 6 => ("DocumentHouse$Tree", "counts", "[I", false)
  | 7 => ("DocumentHouse$Tree", "isLeaf", "[Z", false)
  | 8 => ("DocumentHouse$Tree", "freeNodes", "[I", false)
  | 9 => ("DocumentHouse$Tree", "freeNodeCount", "I", false)
  | 10 => ("DocumentHouse$Tree", "wayNodes", "[I", true)
  | 11 => ("DocumentHouse$Tree", "wayTurns", "[I", true)
  | 12 => ("DocumentHouse$Tree", "firstWay", "I", false)
  | 13 => ("DocumentHouse$Tree", "secondWay", "I", false)
  | 14 => ("DocumentHouse$Tree", "root", "I", false)
  | 15 => ("DocumentHouse$Tree", "entries", "I", false)
  | 16 => ("DocumentHouse$Tree", "leaves", "I", false)
  | 17 => ("DocumentHouse$Tree", "nodes", "I", false)
  | _ => ("DocumentHouse$Tree", "sought", "I", false)
def tyX10 : Nat → FieldType := fun k => match k with
  | 0 => .array .byte
  | 1 => .array .int
  | 2 => .array .int
  | 3 => .int
  | 4 => .array .int
  | 5 => .array .int
  | 6 => .array .int
  | 7 => .array .boolean
  | 8 => .array .int
  | 9 => .int
  | 10 => .array .int
  | 11 => .array .int
  | 12 => .int
  | 13 => .int
  | 14 => .int
  | 15 => .int
  | 16 => .int
  | 17 => .int
  | _ => .int
theorem nmX10 : ∀ a, a < 19 → ∀ b, b < 19 → a ≠ b → (TX10 a).2.1 ≠ (TX10 b).2.1 := by decide +kernel
theorem tyX10_ok : ∀ k, k < 19 → parseFieldDescriptor (TX10 k).2.2.1 = some (tyX10 k) := by decide +kernel
abbrev cX10_init : ByteArray := prog_12_method_1_code
def yX10_init : MethodName := ⟨RX10, "<init>", "()V"⟩
abbrev cX10_clear : ByteArray := prog_12_method_2_code
def yX10_clear : MethodName := ⟨RX10, "clear", "(II)V"⟩
abbrev cX10_newSlot : ByteArray := prog_12_method_3_code
def yX10_newSlot : MethodName := ⟨RX10, "newSlot", "()I"⟩
abbrev cX10_freeSlot : ByteArray := prog_12_method_4_code
def yX10_freeSlot : MethodName := ⟨RX10, "freeSlot", "(I)V"⟩
abbrev cX10_newNode : ByteArray := prog_12_method_5_code
def yX10_newNode : MethodName := ⟨RX10, "newNode", "(Z)I"⟩
abbrev cX10_freeNode : ByteArray := prog_12_method_6_code
def yX10_freeNode : MethodName := ⟨RX10, "freeNode", "(I)V"⟩
abbrev cX10_fill : ByteArray := prog_12_method_7_code
def yX10_fill : MethodName := ⟨RX10, "fill", "(I[BIII)V"⟩
abbrev cX10_markLike : ByteArray := prog_12_method_8_code
def yX10_markLike : MethodName := ⟨RX10, "markLike", "(I)I"⟩
abbrev cX10_compareSlots : ByteArray := prog_12_method_9_code
def yX10_compareSlots : MethodName := ⟨RX10, "compareSlots", "(II)I"⟩
abbrev cX10_levels : ByteArray := prog_12_method_10_code
def yX10_levels : MethodName := ⟨RX10, "levels", "()I"⟩
abbrev cX10_descend : ByteArray := prog_12_method_11_code
def yX10_descend : MethodName := ⟨RX10, "descend", "()I"⟩
abbrev cX10_comes : ByteArray := prog_12_method_12_code
def yX10_comes : MethodName := ⟨RX10, "comes", "([BIII)V"⟩
abbrev cX10_insertKid : ByteArray := prog_12_method_13_code
def yX10_insertKid : MethodName := ⟨RX10, "insertKid", "(III)V"⟩
abbrev cX10_removeKid : ByteArray := prog_12_method_14_code
def yX10_removeKid : MethodName := ⟨RX10, "removeKid", "(II)V"⟩
abbrev cX10_split : ByteArray := prog_12_method_15_code
def yX10_split : MethodName := ⟨RX10, "split", "(I)V"⟩
abbrev cX10_goes : ByteArray := prog_12_method_16_code
def yX10_goes : MethodName := ⟨RX10, "goes", "([BIII)V"⟩
abbrev cX10_mend : ByteArray := prog_12_method_17_code
def yX10_mend : MethodName := ⟨RX10, "mend", "(I)V"⟩
abbrev cX10_takeLast : ByteArray := prog_12_method_18_code
def yX10_takeLast : MethodName := ⟨RX10, "takeLast", "(III)V"⟩
abbrev cX10_takeFirst : ByteArray := prog_12_method_19_code
def yX10_takeFirst : MethodName := ⟨RX10, "takeFirst", "(III)V"⟩
abbrev cX10_join : ByteArray := prog_12_method_20_code
def yX10_join : MethodName := ⟨RX10, "join", "(II)V"⟩
def RX11 : String := "DocumentHouse"
def TX11 : u_T := fun k => match k with
  | 0 => ("DocumentHouse", "b", "[B", true)
  | 1 => ("DocumentHouse", "out", "LDocumentHouse$Out;", true)
  | 2 => ("DocumentHouse", "reader", "LDocumentHouse$Reader;", true)
  | 3 => ("DocumentHouse", "filter", "LDocumentHouse$Filter;", true)
  | 4 => ("DocumentHouse", "change", "LDocumentHouse$Change;", true)
  | 5 => ("DocumentHouse", "stages", "LDocumentHouse$Stages;", true)
  | 6 => ("DocumentHouse", "bounds", "LDocumentHouse$Bounds;", true)
  | 7 => ("DocumentHouse", "path", "LDocumentHouse$Path;", true)
  | 8 => ("DocumentHouse", "otherPath", "LDocumentHouse$Path;", true)
  | 9 => ("DocumentHouse", "shelves", "[LDocumentHouse$Shelf;", true)
  | 10 => ("DocumentHouse", "hits", "[Z", true)
  | 11 => ("DocumentHouse", "renewed", "[I", true)
  | 12 => ("DocumentHouse", "tape", "I", false)
  | 13 => ("DocumentHouse", "operation", "I", false)
  | 14 => ("DocumentHouse", "head", "I", false)
  | 15 => ("DocumentHouse", "third", "I", false)
  | 16 => ("DocumentHouse", "shelf", "LDocumentHouse$Shelf;", false)
  | 17 => ("DocumentHouse", "fault", "I", false)
  | _ => ("DocumentHouse", "place", "I", false)
def tyX11 : Nat → FieldType := fun k => match k with
  | 0 => .array .byte
  | 1 => .object "DocumentHouse$Out"
  | 2 => .object "DocumentHouse$Reader"
  | 3 => .object "DocumentHouse$Filter"
  | 4 => .object "DocumentHouse$Change"
  | 5 => .object "DocumentHouse$Stages"
  | 6 => .object "DocumentHouse$Bounds"
  | 7 => .object "DocumentHouse$Path"
  | 8 => .object "DocumentHouse$Path"
  | 9 => .array (.object "DocumentHouse$Shelf")
  | 10 => .array .boolean
  | 11 => .array .int
  | 12 => .int
  | 13 => .int
  | 14 => .int
  | 15 => .int
  | 16 => .object "DocumentHouse$Shelf"
  | 17 => .int
  | _ => .int
theorem nmX11 : ∀ a, a < 19 → ∀ b, b < 19 → a ≠ b → (TX11 a).2.1 ≠ (TX11 b).2.1 := by decide +kernel
theorem tyX11_ok : ∀ k, k < 19 → parseFieldDescriptor (TX11 k).2.2.1 = some (tyX11 k) := by decide +kernel
abbrev cX11_init : ByteArray := prog_1_method_1_code
def yX11_init : MethodName := ⟨RX11, "<init>", "()V"⟩
abbrev cX11_feed : ByteArray := prog_1_method_2_code
def yX11_feed : MethodName := ⟨RX11, "feed", "(IIIII)I"⟩
abbrev cX11_putOnTape : ByteArray := prog_1_method_3_code
def yX11_putOnTape : MethodName := ⟨RX11, "putOnTape", "(I)V"⟩
abbrev cX11_ask : ByteArray := prog_1_method_4_code
def yX11_ask : MethodName := ⟨RX11, "ask", "(I)I"⟩
abbrev cX11_tellFault : ByteArray := prog_1_method_5_code
def yX11_tellFault : MethodName := ⟨RX11, "tellFault", "()V"⟩
abbrev cX11_fail : ByteArray := prog_1_method_6_code
def yX11_fail : MethodName := ⟨RX11, "fail", "(II)V"⟩
abbrev cX11_failAt : ByteArray := prog_1_method_7_code
def yX11_failAt : MethodName := ⟨RX11, "failAt", "(II)V"⟩
abbrev cX11_answer : ByteArray := prog_1_method_8_code
def yX11_answer : MethodName := ⟨RX11, "answer", "(I)I"⟩
abbrev cX11_state : ByteArray := prog_1_method_9_code
def yX11_state : MethodName := ⟨RX11, "state", "(I)I"⟩
abbrev cX11_number : ByteArray := prog_1_method_10_code
def yX11_number : MethodName := ⟨RX11, "number", "(II)I"⟩
abbrev cX11_size : ByteArray := prog_1_method_11_code
def yX11_size : MethodName := ⟨RX11, "size", "(II)I"⟩
abbrev cX11_byteAt : ByteArray := prog_1_method_12_code
def yX11_byteAt : MethodName := ⟨RX11, "byteAt", "(III)I"⟩
abbrev cX11_standsOn : ByteArray := prog_1_method_13_code
def yX11_standsOn : MethodName := ⟨RX11, "standsOn", "(II)Z"⟩
abbrev cX11_wrongInRequest : ByteArray := prog_1_method_14_code
def yX11_wrongInRequest : MethodName := ⟨RX11, "wrongInRequest", "()I"⟩
abbrev cX11_operationOf : ByteArray := prog_1_method_15_code
def yX11_operationOf : MethodName := ⟨RX11, "operationOf", "(I)I"⟩
abbrev cX11_isShelf : ByteArray := prog_1_method_16_code
def yX11_isShelf : MethodName := ⟨RX11, "isShelf", "(I)Z"⟩
abbrev cX11_wrongInHead : ByteArray := prog_1_method_17_code
def yX11_wrongInHead : MethodName := ⟨RX11, "wrongInHead", "()I"⟩
abbrev cX11_wrongPipeline : ByteArray := prog_1_method_18_code
def yX11_wrongPipeline : MethodName := ⟨RX11, "wrongPipeline", "()I"⟩
abbrev cX11_wrongPaths : ByteArray := prog_1_method_19_code
def yX11_wrongPaths : MethodName := ⟨RX11, "wrongPaths", "()I"⟩
abbrev cX11_wrongChange : ByteArray := prog_1_method_20_code
def yX11_wrongChange : MethodName := ⟨RX11, "wrongChange", "()I"⟩
abbrev cX11_wrongDown : ByteArray := prog_1_method_21_code
def yX11_wrongDown : MethodName := ⟨RX11, "wrongDown", "()I"⟩
abbrev cX11_insert : ByteArray := prog_1_method_22_code
def yX11_insert : MethodName := ⟨RX11, "insert", "()V"⟩
abbrev cX11_hitsOfFilter : ByteArray := prog_1_method_23_code
def yX11_hitsOfFilter : MethodName := ⟨RX11, "hitsOfFilter", "()I"⟩
abbrev cX11_find : ByteArray := prog_1_method_24_code
def yX11_find : MethodName := ⟨RX11, "find", "()V"⟩
abbrev cX11_count : ByteArray := prog_1_method_25_code
def yX11_count : MethodName := ⟨RX11, "count", "()V"⟩
abbrev cX11_delete : ByteArray := prog_1_method_26_code
def yX11_delete : MethodName := ⟨RX11, "delete", "()V"⟩
abbrev cX11_update : ByteArray := prog_1_method_27_code
def yX11_update : MethodName := ⟨RX11, "update", "()V"⟩
abbrev cX11_makeIndex : ByteArray := prog_1_method_28_code
def yX11_makeIndex : MethodName := ⟨RX11, "makeIndex", "()V"⟩
abbrev cX11_askedIndex : ByteArray := prog_1_method_29_code
def yX11_askedIndex : MethodName := ⟨RX11, "askedIndex", "()LDocumentHouse$Index;"⟩
abbrev cX11_drop : ByteArray := prog_1_method_30_code
def yX11_drop : MethodName := ⟨RX11, "drop", "()V"⟩
abbrev cX11_shape : ByteArray := prog_1_method_31_code
def yX11_shape : MethodName := ⟨RX11, "shape", "()V"⟩
abbrev cX11_pipeline : ByteArray := prog_1_method_32_code
def yX11_pipeline : MethodName := ⟨RX11, "pipeline", "()V"⟩
abbrev cX11_explain : ByteArray := prog_1_method_33_code
def yX11_explain : MethodName := ⟨RX11, "explain", "()V"⟩
def RX12 : String := "DocumentHouseModel"
def TX12 : u_T := fun k => match k with
  | 0 => ("DocumentHouseModel", "b", "[B", true)
  | 1 => ("DocumentHouseModel", "tape", "[I", true)
  | 2 => ("DocumentHouseModel", "taped", "I", false)
  | 3 => ("DocumentHouseModel", "answered", "I", false)
  | 4 => ("DocumentHouseModel", "w", "I", false)
  | 5 => ("DocumentHouseModel", "end", "I", false)
  | 6 => ("DocumentHouseModel", "over", "Z", false)
  | 7 => ("DocumentHouseModel", "fault", "I", false)
  | 8 => ("DocumentHouseModel", "place", "I", false)
  | 9 => ("DocumentHouseModel", "leaf", "[I", true)
  | 10 => ("DocumentHouseModel", "leaves", "I", false)
  | 11 => ("DocumentHouseModel", "elements", "I", false)
  | 12 => ("DocumentHouseModel", "chain", "[I", true)
  | 13 => ("DocumentHouseModel", "deep", "I", false)
  | 14 => ("DocumentHouseModel", "inRow", "Z", false)
  | 15 => ("DocumentHouseModel", "stepFrom", "I", false)
  | 16 => ("DocumentHouseModel", "stepTo", "I", false)
  | 17 => ("DocumentHouseModel", "changed", "Z", false)
  | 18 => ("DocumentHouseModel", "belt", "[I", true)
  | 19 => ("DocumentHouseModel", "belts", "I", false)
  | 20 => ("DocumentHouseModel", "other", "[I", true)
  | 21 => ("DocumentHouseModel", "others", "I", false)
  | 22 => ("DocumentHouseModel", "made", "[I", true)
  | 23 => ("DocumentHouseModel", "mades", "I", false)
  | 24 => ("DocumentHouseModel", "part", "I", false)
  | 25 => ("DocumentHouseModel", "tooMany", "Z", false)
  | 26 => ("DocumentHouseModel", "loose", "I", false)
  | 27 => ("DocumentHouseModel", "found", "I", false)
  | 28 => ("DocumentHouseModel", "foundAt", "I", false)
  | 29 => ("DocumentHouseModel", "foundFrom", "I", false)
  | 30 => ("DocumentHouseModel", "groupOf", "[I", true)
  | 31 => ("DocumentHouseModel", "firstOf", "[I", true)
  | 32 => ("DocumentHouseModel", "groups", "I", false)
  | 33 => ("DocumentHouseModel", "sumsRight", "Z", false)
  | 34 => ("DocumentHouseModel", "keyOf", "[I", true)
  | 35 => ("DocumentHouseModel", "there", "[Z", true)
  | 36 => ("DocumentHouseModel", "paths", "[I", true)
  | 37 => ("DocumentHouseModel", "pathEnd", "[I", true)
  | 38 => ("DocumentHouseModel", "down", "[Z", true)
  | 39 => ("DocumentHouseModel", "many", "[Z", true)
  | 40 => ("DocumentHouseModel", "tooLong", "Z", false)
  | 41 => ("DocumentHouseModel", "first1", "I", false)
  | 42 => ("DocumentHouseModel", "ofFirst", "I", false)
  | 43 => ("DocumentHouseModel", "first2", "I", false)
  | 44 => ("DocumentHouseModel", "firstEnd", "I", false)
  | 45 => ("DocumentHouseModel", "kept", "[Z", true)
  | 46 => ("DocumentHouseModel", "entryNumber", "[I", true)
  | 47 => ("DocumentHouseModel", "coming", "I", false)
  | 48 => ("DocumentHouseModel", "used", "[Z", true)
  | 49 => ("DocumentHouseModel", "isLeaf", "[Z", true)
  | 50 => ("DocumentHouseModel", "sizes", "[I", true)
  | 51 => ("DocumentHouseModel", "child", "[I", true)
  | 52 => ("DocumentHouseModel", "mark", "[I", true)
  | 53 => ("DocumentHouseModel", "root", "[I", true)
  | 54 => ("DocumentHouseModel", "entryCount", "[I", true)
  | 55 => ("DocumentHouseModel", "split", "I", false)
  | 56 => ("DocumentHouseModel", "splitMark", "I", false)
  | 57 => ("DocumentHouseModel", "low", "[I", true)
  | 58 => ("DocumentHouseModel", "high", "[I", true)
  | 59 => ("DocumentHouseModel", "lowIn", "[Z", true)
  | 60 => ("DocumentHouseModel", "highIn", "[Z", true)
  | 61 => ("DocumentHouseModel", "intervals", "I", false)
  | 62 => ("DocumentHouseModel", "says", "[I", true)
  | 63 => ("DocumentHouseModel", "saysAlone", "[Z", true)
  | 64 => ("DocumentHouseModel", "sayings", "I", false)
  | 65 => ("DocumentHouseModel", "rank", "I", false)
  | 66 => ("DocumentHouseModel", "ranges", "I", false)
  | 67 => ("DocumentHouseModel", "second", "I", false)
  | 68 => ("DocumentHouseModel", "documents", "[I", true)
  | 69 => ("DocumentHouseModel", "bytes", "[I", true)
  | 70 => ("DocumentHouseModel", "next", "[I", true)
  | 71 => ("DocumentHouseModel", "slot", "[I", true)
  | 72 => ("DocumentHouseModel", "numberOf", "[I", true)
  | 73 => ("DocumentHouseModel", "taken", "[Z", true)
  | 74 => ("DocumentHouseModel", "matched", "[Z", true)
  | 75 => ("DocumentHouseModel", "altered", "[Z", true)
  | 76 => ("DocumentHouseModel", "entriesThen", "[I", true)
  | _ => ("DocumentHouseModel", "answer", "I", false)
def tyX12 : Nat → FieldType := fun k => match k with
  | 0 => .array .byte
  | 1 => .array .int
  | 2 => .int
  | 3 => .int
  | 4 => .int
  | 5 => .int
  | 6 => .boolean
  | 7 => .int
  | 8 => .int
  | 9 => .array .int
  | 10 => .int
  | 11 => .int
  | 12 => .array .int
  | 13 => .int
  | 14 => .boolean
  | 15 => .int
  | 16 => .int
  | 17 => .boolean
  | 18 => .array .int
  | 19 => .int
  | 20 => .array .int
  | 21 => .int
  | 22 => .array .int
  | 23 => .int
  | 24 => .int
  | 25 => .boolean
  | 26 => .int
  | 27 => .int
  | 28 => .int
  | 29 => .int
  | 30 => .array .int
  | 31 => .array .int
  | 32 => .int
  | 33 => .boolean
  | 34 => .array .int
  | 35 => .array .boolean
  | 36 => .array .int
  | 37 => .array .int
  | 38 => .array .boolean
  | 39 => .array .boolean
  | 40 => .boolean
  | 41 => .int
  | 42 => .int
  | 43 => .int
  | 44 => .int
  | 45 => .array .boolean
  | 46 => .array .int
  | 47 => .int
  | 48 => .array .boolean
  | 49 => .array .boolean
  | 50 => .array .int
  | 51 => .array .int
  | 52 => .array .int
  | 53 => .array .int
  | 54 => .array .int
  | 55 => .int
  | 56 => .int
  | 57 => .array .int
  | 58 => .array .int
  | 59 => .array .boolean
  | 60 => .array .boolean
  | 61 => .int
  | 62 => .array .int
  | 63 => .array .boolean
  | 64 => .int
  | 65 => .int
  | 66 => .int
  | 67 => .int
  | 68 => .array .int
  | 69 => .array .int
  | 70 => .array .int
  | 71 => .array .int
  | 72 => .array .int
  | 73 => .array .boolean
  | 74 => .array .boolean
  | 75 => .array .boolean
  | 76 => .array .int
  | _ => .int
theorem nmX12 : ∀ a, a < 78 → ∀ b, b < 78 → a ≠ b → (TX12 a).2.1 ≠ (TX12 b).2.1 := by decide +kernel
theorem tyX12_ok : ∀ k, k < 78 → parseFieldDescriptor (TX12 k).2.2.1 = some (tyX12 k) := by decide +kernel
abbrev cX12_init : ByteArray := prog_14_method_1_code
def yX12_init : MethodName := ⟨RX12, "<init>", "()V"⟩
abbrev cX12_at : ByteArray := prog_14_method_2_code
def yX12_at : MethodName := ⟨RX12, "at", "(I)I"⟩
abbrev cX12_int4 : ByteArray := prog_14_method_3_code
def yX12_int4 : MethodName := ⟨RX12, "int4", "(I)I"⟩
abbrev cX12_long8 : ByteArray := prog_14_method_4_code
def yX12_long8 : MethodName := ⟨RX12, "long8", "(I)J"⟩
abbrev cX12_setInt4 : ByteArray := prog_14_method_5_code
def yX12_setInt4 : MethodName := ⟨RX12, "setInt4", "(II)V"⟩
abbrev cX12_isSameBytes : ByteArray := prog_14_method_6_code
def yX12_isSameBytes : MethodName := ⟨RX12, "isSameBytes", "(IIII)Z"⟩
abbrev cX12_is : ByteArray := prog_14_method_7_code
def yX12_is : MethodName := ⟨RX12, "is", "(IILjava/lang/String;)Z"⟩
abbrev cX12_nameEnd : ByteArray := prog_14_method_8_code
def yX12_nameEnd : MethodName := ⟨RX12, "nameEnd", "(I)I"⟩
abbrev cX12_value : ByteArray := prog_14_method_9_code
def yX12_value : MethodName := ⟨RX12, "value", "(I)I"⟩
abbrev cX12_lengthOf : ByteArray := prog_14_method_10_code
def yX12_lengthOf : MethodName := ⟨RX12, "lengthOf", "(II)I"⟩
abbrev cX12_behind : ByteArray := prog_14_method_11_code
def yX12_behind : MethodName := ⟨RX12, "behind", "(I)I"⟩
abbrev cX12_isName : ByteArray := prog_14_method_12_code
def yX12_isName : MethodName := ⟨RX12, "isName", "(ILjava/lang/String;)Z"⟩
abbrev cX12_first : ByteArray := prog_14_method_13_code
def yX12_first : MethodName := ⟨RX12, "first", "(I)I"⟩
abbrev cX12_last : ByteArray := prog_14_method_14_code
def yX12_last : MethodName := ⟨RX12, "last", "(I)I"⟩
abbrev cX12_count : ByteArray := prog_14_method_15_code
def yX12_count : MethodName := ⟨RX12, "count", "(I)I"⟩
abbrev cX12_find : ByteArray := prog_14_method_16_code
def yX12_find : MethodName := ⟨RX12, "find", "(III)I"⟩
abbrev cX12_item : ByteArray := prog_14_method_17_code
def yX12_item : MethodName := ⟨RX12, "item", "(II)I"⟩
abbrev cX12_isNumber : ByteArray := prog_14_method_18_code
def yX12_isNumber : MethodName := ⟨RX12, "isNumber", "(I)Z"⟩
abbrev cX12_number : ByteArray := prog_14_method_19_code
def yX12_number : MethodName := ⟨RX12, "number", "(I)J"⟩
abbrev cX12_depth : ByteArray := prog_14_method_20_code
def yX12_depth : MethodName := ⟨RX12, "depth", "(I)I"⟩
abbrev cX12_write : ByteArray := prog_14_method_21_code
def yX12_write : MethodName := ⟨RX12, "write", "(II)V"⟩
abbrev cX12_put : ByteArray := prog_14_method_22_code
def yX12_put : MethodName := ⟨RX12, "put", "(I)V"⟩
abbrev cX12_putInt : ByteArray := prog_14_method_23_code
def yX12_putInt : MethodName := ⟨RX12, "putInt", "(I)V"⟩
abbrev cX12_putBytes : ByteArray := prog_14_method_24_code
def yX12_putBytes : MethodName := ⟨RX12, "putBytes", "(II)V"⟩
abbrev cX12_putWord : ByteArray := prog_14_method_25_code
def yX12_putWord : MethodName := ⟨RX12, "putWord", "(Ljava/lang/String;)V"⟩
abbrev cX12_putDigits : ByteArray := prog_14_method_26_code
def yX12_putDigits : MethodName := ⟨RX12, "putDigits", "(I)V"⟩
abbrev cX12_open : ByteArray := prog_14_method_27_code
def yX12_open : MethodName := ⟨RX12, "open", "()I"⟩
abbrev cX12_close : ByteArray := prog_14_method_28_code
def yX12_close : MethodName := ⟨RX12, "close", "(I)V"⟩
abbrev cX12_putValue : ByteArray := prog_14_method_29_code
def yX12_putValue : MethodName := ⟨RX12, "putValue", "(I)V"⟩
abbrev cX12_putAs : ByteArray := prog_14_method_30_code
def yX12_putAs : MethodName := ⟨RX12, "putAs", "(III)V"⟩
abbrev cX12_putNumber : ByteArray := prog_14_method_31_code
def yX12_putNumber : MethodName := ⟨RX12, "putNumber", "(Ljava/lang/String;I)V"⟩
abbrev cX12_putTruth : ByteArray := prog_14_method_32_code
def yX12_putTruth : MethodName := ⟨RX12, "putTruth", "(Ljava/lang/String;Z)V"⟩
abbrev cX12_fails : ByteArray := prog_14_method_33_code
def yX12_fails : MethodName := ⟨RX12, "fails", "(II)Z"⟩
abbrev cX12_character : ByteArray := prog_14_method_34_code
def yX12_character : MethodName := ⟨RX12, "character", "(II)I"⟩
abbrev cX12_isRight : ByteArray := prog_14_method_35_code
def yX12_isRight : MethodName := ⟨RX12, "isRight", "(II)Z"⟩
abbrev cX12_readAll : ByteArray := prog_14_method_36_code
def yX12_readAll : MethodName := ⟨RX12, "readAll", "(I)Z"⟩
abbrev cX12_readContainer : ByteArray := prog_14_method_37_code
def yX12_readContainer : MethodName := ⟨RX12, "readContainer", "(IIZI)Z"⟩
abbrev cX12_readElements : ByteArray := prog_14_method_38_code
def yX12_readElements : MethodName := ⟨RX12, "readElements", "(IZI)Z"⟩
abbrev cX12_isKind : ByteArray := prog_14_method_39_code
def yX12_isKind : MethodName := ⟨RX12, "isKind", "(I)Z"⟩
abbrev cX12_isDigits : ByteArray := prog_14_method_40_code
def yX12_isDigits : MethodName := ⟨RX12, "isDigits", "(III)Z"⟩
abbrev cX12_isThere : ByteArray := prog_14_method_41_code
def yX12_isThere : MethodName := ⟨RX12, "isThere", "(IIII)Z"⟩
abbrev cX12_readValue : ByteArray := prog_14_method_42_code
def yX12_readValue : MethodName := ⟨RX12, "readValue", "(IIII)Z"⟩
abbrev cX12_classOf : ByteArray := prog_14_method_43_code
def yX12_classOf : MethodName := ⟨RX12, "classOf", "(I)I"⟩
abbrev cX12_compareBytes : ByteArray := prog_14_method_44_code
def yX12_compareBytes : MethodName := ⟨RX12, "compareBytes", "(IIII)I"⟩
abbrev cX12_compare : ByteArray := prog_14_method_45_code
def yX12_compare : MethodName := ⟨RX12, "compare", "(II)I"⟩
abbrev cX12_compareAll : ByteArray := prog_14_method_46_code
def yX12_compareAll : MethodName := ⟨RX12, "compareAll", "(IIZ)I"⟩
abbrev cX12_isSame : ByteArray := prog_14_method_47_code
def yX12_isSame : MethodName := ⟨RX12, "isSame", "(II)Z"⟩
abbrev cX12_stepEnd : ByteArray := prog_14_method_48_code
def yX12_stepEnd : MethodName := ⟨RX12, "stepEnd", "(II)I"⟩
abbrev cX12_isPath : ByteArray := prog_14_method_49_code
def yX12_isPath : MethodName := ⟨RX12, "isPath", "(II)Z"⟩
abbrev cX12_hasDollar : ByteArray := prog_14_method_50_code
def yX12_hasDollar : MethodName := ⟨RX12, "hasDollar", "(II)Z"⟩
abbrev cX12_isPlainPath : ByteArray := prog_14_method_51_code
def yX12_isPlainPath : MethodName := ⟨RX12, "isPlainPath", "(II)Z"⟩
abbrev cX12_stepNumber : ByteArray := prog_14_method_52_code
def yX12_stepNumber : MethodName := ⟨RX12, "stepNumber", "(II)I"⟩
abbrev cX12_addLeaf : ByteArray := prog_14_method_53_code
def yX12_addLeaf : MethodName := ⟨RX12, "addLeaf", "(I)V"⟩
abbrev cX12_go : ByteArray := prog_14_method_54_code
def yX12_go : MethodName := ⟨RX12, "go", "(III)V"⟩
abbrev cX12_goDocument : ByteArray := prog_14_method_55_code
def yX12_goDocument : MethodName := ⟨RX12, "goDocument", "(III)V"⟩
abbrev cX12_goRow : ByteArray := prog_14_method_56_code
def yX12_goRow : MethodName := ⟨RX12, "goRow", "(III)V"⟩
abbrev cX12_withItems : ByteArray := prog_14_method_57_code
def yX12_withItems : MethodName := ⟨RX12, "withItems", "(III)I"⟩
abbrev cX12_begins : ByteArray := prog_14_method_58_code
def yX12_begins : MethodName := ⟨RX12, "begins", "(II)Z"⟩
abbrev cX12_isJoining : ByteArray := prog_14_method_59_code
def yX12_isJoining : MethodName := ⟨RX12, "isJoining", "(I)Z"⟩
abbrev cX12_areConditions : ByteArray := prog_14_method_60_code
def yX12_areConditions : MethodName := ⟨RX12, "areConditions", "(I)Z"⟩
abbrev cX12_areOfItems : ByteArray := prog_14_method_61_code
def yX12_areOfItems : MethodName := ⟨RX12, "areOfItems", "(I)Z"⟩
abbrev cX12_counts : ByteArray := prog_14_method_62_code
def yX12_counts : MethodName := ⟨RX12, "counts", "(II)Z"⟩
abbrev cX12_isFilter : ByteArray := prog_14_method_63_code
def yX12_isFilter : MethodName := ⟨RX12, "isFilter", "(I)Z"⟩
abbrev cX12_checkFilter : ByteArray := prog_14_method_64_code
def yX12_checkFilter : MethodName := ⟨RX12, "checkFilter", "(I)Z"⟩
abbrev cX12_checkJoining : ByteArray := prog_14_method_65_code
def yX12_checkJoining : MethodName := ⟨RX12, "checkJoining", "(I)Z"⟩
abbrev cX12_isCondition : ByteArray := prog_14_method_66_code
def yX12_isCondition : MethodName := ⟨RX12, "isCondition", "(I)Z"⟩
abbrev cX12_hasRightValue : ByteArray := prog_14_method_67_code
def yX12_hasRightValue : MethodName := ⟨RX12, "hasRightValue", "(I)Z"⟩
abbrev cX12_checkConditions : ByteArray := prog_14_method_68_code
def yX12_checkConditions : MethodName := ⟨RX12, "checkConditions", "(I)Z"⟩
abbrev cX12_holds : ByteArray := prog_14_method_69_code
def yX12_holds : MethodName := ⟨RX12, "holds", "(II)Z"⟩
abbrev cX12_holdsOne : ByteArray := prog_14_method_70_code
def yX12_holdsOne : MethodName := ⟨RX12, "holdsOne", "(II)Z"⟩
abbrev cX12_hold : ByteArray := prog_14_method_71_code
def yX12_hold : MethodName := ⟨RX12, "hold", "(III)Z"⟩
abbrev cX12_holdsCondition : ByteArray := prog_14_method_72_code
def yX12_holdsCondition : MethodName := ⟨RX12, "holdsCondition", "(III)Z"⟩
abbrev cX12_hasItem : ByteArray := prog_14_method_73_code
def yX12_hasItem : MethodName := ⟨RX12, "hasItem", "(II)Z"⟩
abbrev cX12_equals : ByteArray := prog_14_method_74_code
def yX12_equals : MethodName := ⟨RX12, "equals", "(III)Z"⟩
abbrev cX12_equalsSome : ByteArray := prog_14_method_75_code
def yX12_equalsSome : MethodName := ⟨RX12, "equalsSome", "(III)Z"⟩
abbrev cX12_compares : ByteArray := prog_14_method_76_code
def yX12_compares : MethodName := ⟨RX12, "compares", "(III)Z"⟩
abbrev cX12_isBeside : ByteArray := prog_14_method_77_code
def yX12_isBeside : MethodName := ⟨RX12, "isBeside", "(II)Z"⟩
abbrev cX12_isOperator : ByteArray := prog_14_method_78_code
def yX12_isOperator : MethodName := ⟨RX12, "isOperator", "(I)Z"⟩
abbrev cX12_areAlong : ByteArray := prog_14_method_79_code
def yX12_areAlong : MethodName := ⟨RX12, "areAlong", "(II)Z"⟩
abbrev cX12_isTaken : ByteArray := prog_14_method_80_code
def yX12_isTaken : MethodName := ⟨RX12, "isTaken", "(II)Z"⟩
abbrev cX12_isChange : ByteArray := prog_14_method_81_code
def yX12_isChange : MethodName := ⟨RX12, "isChange", "(I)Z"⟩
abbrev cX12_splice : ByteArray := prog_14_method_82_code
def yX12_splice : MethodName := ⟨RX12, "splice", "(II)V"⟩
abbrev cX12_writeLoose : ByteArray := prog_14_method_83_code
def yX12_writeLoose : MethodName := ⟨RX12, "writeLoose", "()V"⟩
abbrev cX12_append : ByteArray := prog_14_method_84_code
def yX12_append : MethodName := ⟨RX12, "append", "()I"⟩
abbrev cX12_into : ByteArray := prog_14_method_85_code
def yX12_into : MethodName := ⟨RX12, "into", "(I)V"⟩
abbrev cX12_fromOutermost : ByteArray := prog_14_method_86_code
def yX12_fromOutermost : MethodName := ⟨RX12, "fromOutermost", "()V"⟩
abbrev cX12_meet : ByteArray := prog_14_method_87_code
def yX12_meet : MethodName := ⟨RX12, "meet", "(II)I"⟩
abbrev cX12_make : ByteArray := prog_14_method_88_code
def yX12_make : MethodName := ⟨RX12, "make", "(II)I"⟩
abbrev cX12_reach : ByteArray := prog_14_method_89_code
def yX12_reach : MethodName := ⟨RX12, "reach", "(II)I"⟩
abbrev cX12_come : ByteArray := prog_14_method_90_code
def yX12_come : MethodName := ⟨RX12, "come", "(II)V"⟩
abbrev cX12_doPath : ByteArray := prog_14_method_91_code
def yX12_doPath : MethodName := ⟨RX12, "doPath", "(II)I"⟩
abbrev cX12_add : ByteArray := prog_14_method_92_code
def yX12_add : MethodName := ⟨RX12, "add", "(II)I"⟩
abbrev cX12_push : ByteArray := prog_14_method_93_code
def yX12_push : MethodName := ⟨RX12, "push", "(IIZ)I"⟩
abbrev cX12_pull : ByteArray := prog_14_method_94_code
def yX12_pull : MethodName := ⟨RX12, "pull", "(II)I"⟩
abbrev cX12_copy : ByteArray := prog_14_method_95_code
def yX12_copy : MethodName := ⟨RX12, "copy", "(III)V"⟩
abbrev cX12_change : ByteArray := prog_14_method_96_code
def yX12_change : MethodName := ⟨RX12, "change", "(II)Z"⟩
abbrev cX12_isPlain : ByteArray := prog_14_method_97_code
def yX12_isPlain : MethodName := ⟨RX12, "isPlain", "(II)Z"⟩
abbrev cX12_textEnd : ByteArray := prog_14_method_98_code
def yX12_textEnd : MethodName := ⟨RX12, "textEnd", "(I)I"⟩
abbrev cX12_isReference : ByteArray := prog_14_method_99_code
def yX12_isReference : MethodName := ⟨RX12, "isReference", "(I)Z"⟩
abbrev cX12_expressionFault : ByteArray := prog_14_method_100_code
def yX12_expressionFault : MethodName := ⟨RX12, "expressionFault", "(I)I"⟩
abbrev cX12_resolve : ByteArray := prog_14_method_101_code
def yX12_resolve : MethodName := ⟨RX12, "resolve", "(III)V"⟩
abbrev cX12_putValues : ByteArray := prog_14_method_102_code
def yX12_putValues : MethodName := ⟨RX12, "putValues", "(III)V"⟩
abbrev cX12_valueAt : ByteArray := prog_14_method_103_code
def yX12_valueAt : MethodName := ⟨RX12, "valueAt", "(II)I"⟩
abbrev cX12_fresh : ByteArray := prog_14_method_104_code
def yX12_fresh : MethodName := ⟨RX12, "fresh", "(II)I"⟩
abbrev cX12_orNothing : ByteArray := prog_14_method_105_code
def yX12_orNothing : MethodName := ⟨RX12, "orNothing", "(I)I"⟩
abbrev cX12_stageFault : ByteArray := prog_14_method_106_code
def yX12_stageFault : MethodName := ⟨RX12, "stageFault", "(I)I"⟩
abbrev cX12_projectFault : ByteArray := prog_14_method_107_code
def yX12_projectFault : MethodName := ⟨RX12, "projectFault", "(I)I"⟩
abbrev cX12_isGathering : ByteArray := prog_14_method_108_code
def yX12_isGathering : MethodName := ⟨RX12, "isGathering", "(I)Z"⟩
abbrev cX12_groupFault : ByteArray := prog_14_method_109_code
def yX12_groupFault : MethodName := ⟨RX12, "groupFault", "(I)I"⟩
abbrev cX12_sortFault : ByteArray := prog_14_method_110_code
def yX12_sortFault : MethodName := ⟨RX12, "sortFault", "(I)I"⟩
abbrev cX12_lookupFault : ByteArray := prog_14_method_111_code
def yX12_lookupFault : MethodName := ⟨RX12, "lookupFault", "(I)I"⟩
abbrev cX12_deliver : ByteArray := prog_14_method_112_code
def yX12_deliver : MethodName := ⟨RX12, "deliver", "(I)V"⟩
abbrev cX12_beginMaking : ByteArray := prog_14_method_113_code
def yX12_beginMaking : MethodName := ⟨RX12, "beginMaking", "()V"⟩
abbrev cX12_endMaking : ByteArray := prog_14_method_114_code
def yX12_endMaking : MethodName := ⟨RX12, "endMaking", "()I"⟩
abbrev cX12_stage : ByteArray := prog_14_method_115_code
def yX12_stage : MethodName := ⟨RX12, "stage", "(I)I"⟩
abbrev cX12_project : ByteArray := prog_14_method_116_code
def yX12_project : MethodName := ⟨RX12, "project", "(II)V"⟩
abbrev cX12_through : ByteArray := prog_14_method_117_code
def yX12_through : MethodName := ⟨RX12, "through", "(III)I"⟩
abbrev cX12_unwind : ByteArray := prog_14_method_118_code
def yX12_unwind : MethodName := ⟨RX12, "unwind", "(II)V"⟩
abbrev cX12_putUnwound : ByteArray := prog_14_method_119_code
def yX12_putUnwound : MethodName := ⟨RX12, "putUnwound", "(III)V"⟩
abbrev cX12_lookup : ByteArray := prog_14_method_120_code
def yX12_lookup : MethodName := ⟨RX12, "lookup", "(II)V"⟩
abbrev cX12_once : ByteArray := prog_14_method_121_code
def yX12_once : MethodName := ⟨RX12, "once", "(I)V"⟩
abbrev cX12_putJoined : ByteArray := prog_14_method_122_code
def yX12_putJoined : MethodName := ⟨RX12, "putJoined", "(IIIII)V"⟩
abbrev cX12_haveSameKey : ByteArray := prog_14_method_123_code
def yX12_haveSameKey : MethodName := ⟨RX12, "haveSameKey", "(III)Z"⟩
abbrev cX12_group : ByteArray := prog_14_method_124_code
def yX12_group : MethodName := ⟨RX12, "group", "(I)Z"⟩
abbrev cX12_putName : ByteArray := prog_14_method_125_code
def yX12_putName : MethodName := ⟨RX12, "putName", "(II)V"⟩
abbrev cX12_gather : ByteArray := prog_14_method_126_code
def yX12_gather : MethodName := ⟨RX12, "gather", "(III)V"⟩
abbrev cX12_end : ByteArray := prog_14_method_127_code
def yX12_end : MethodName := ⟨RX12, "end", "(IZ)I"⟩
abbrev cX12_most : ByteArray := prog_14_method_128_code
def yX12_most : MethodName := ⟨RX12, "most", "(IIZ)I"⟩
abbrev cX12_putTotal : ByteArray := prog_14_method_129_code
def yX12_putTotal : MethodName := ⟨RX12, "putTotal", "(III)V"⟩
abbrev cX12_putGathered : ByteArray := prog_14_method_130_code
def yX12_putGathered : MethodName := ⟨RX12, "putGathered", "(IIZ)V"⟩
abbrev cX12_isAhead : ByteArray := prog_14_method_131_code
def yX12_isAhead : MethodName := ⟨RX12, "isAhead", "(IIII)Z"⟩
abbrev cX12_sort : ByteArray := prog_14_method_132_code
def yX12_sort : MethodName := ⟨RX12, "sort", "(I)I"⟩
abbrev cX12_compareKeys : ByteArray := prog_14_method_133_code
def yX12_compareKeys : MethodName := ⟨RX12, "compareKeys", "(IIII)I"⟩
abbrev cX12_pathOf : ByteArray := prog_14_method_134_code
def yX12_pathOf : MethodName := ⟨RX12, "pathOf", "(II)I"⟩
abbrev cX12_addKey : ByteArray := prog_14_method_135_code
def yX12_addKey : MethodName := ⟨RX12, "addKey", "(II)V"⟩
abbrev cX12_keys : ByteArray := prog_14_method_136_code
def yX12_keys : MethodName := ⟨RX12, "keys", "(III)I"⟩
abbrev cX12_entriesOf : ByteArray := prog_14_method_137_code
def yX12_entriesOf : MethodName := ⟨RX12, "entriesOf", "(II)I"⟩
abbrev cX12_marks : ByteArray := prog_14_method_138_code
def yX12_marks : MethodName := ⟨RX12, "marks", "(II)V"⟩
abbrev cX12_keyAt : ByteArray := prog_14_method_139_code
def yX12_keyAt : MethodName := ⟨RX12, "keyAt", "(III)I"⟩
abbrev cX12_newEntry : ByteArray := prog_14_method_140_code
def yX12_newEntry : MethodName := ⟨RX12, "newEntry", "(IIII)I"⟩
abbrev cX12_sweep : ByteArray := prog_14_method_141_code
def yX12_sweep : MethodName := ⟨RX12, "sweep", "(I)V"⟩
abbrev cX12_order : ByteArray := prog_14_method_142_code
def yX12_order : MethodName := ⟨RX12, "order", "(III)I"⟩
abbrev cX12_sizeOf : ByteArray := prog_14_method_143_code
def yX12_sizeOf : MethodName := ⟨RX12, "sizeOf", "(II)I"⟩
abbrev cX12_setSize : ByteArray := prog_14_method_144_code
def yX12_setSize : MethodName := ⟨RX12, "setSize", "(III)V"⟩
abbrev cX12_slot : ByteArray := prog_14_method_145_code
def yX12_slot : MethodName := ⟨RX12, "slot", "(III)I"⟩
abbrev cX12_newNode : ByteArray := prog_14_method_146_code
def yX12_newNode : MethodName := ⟨RX12, "newNode", "(IZ)I"⟩
abbrev cX12_dropTree : ByteArray := prog_14_method_147_code
def yX12_dropTree : MethodName := ⟨RX12, "dropTree", "(I)V"⟩
abbrev cX12_insertAt : ByteArray := prog_14_method_148_code
def yX12_insertAt : MethodName := ⟨RX12, "insertAt", "(IIIII)V"⟩
abbrev cX12_removeAt : ByteArray := prog_14_method_149_code
def yX12_removeAt : MethodName := ⟨RX12, "removeAt", "(III)V"⟩
abbrev cX12_downTo : ByteArray := prog_14_method_150_code
def yX12_downTo : MethodName := ⟨RX12, "downTo", "(III)I"⟩
abbrev cX12_placeIn : ByteArray := prog_14_method_151_code
def yX12_placeIn : MethodName := ⟨RX12, "placeIn", "(III)I"⟩
abbrev cX12_isLeafNode : ByteArray := prog_14_method_152_code
def yX12_isLeafNode : MethodName := ⟨RX12, "isLeafNode", "(II)Z"⟩
abbrev cX12_comes : ByteArray := prog_14_method_153_code
def yX12_comes : MethodName := ⟨RX12, "comes", "(III)Z"⟩
abbrev cX12_enter : ByteArray := prog_14_method_154_code
def yX12_enter : MethodName := ⟨RX12, "enter", "(IIII)V"⟩
abbrev cX12_goes : ByteArray := prog_14_method_155_code
def yX12_goes : MethodName := ⟨RX12, "goes", "(III)V"⟩
abbrev cX12_fromAhead : ByteArray := prog_14_method_156_code
def yX12_fromAhead : MethodName := ⟨RX12, "fromAhead", "(III)V"⟩
abbrev cX12_fromBehind : ByteArray := prog_14_method_157_code
def yX12_fromBehind : MethodName := ⟨RX12, "fromBehind", "(III)V"⟩
abbrev cX12_join : ByteArray := prog_14_method_158_code
def yX12_join : MethodName := ⟨RX12, "join", "(III)V"⟩
abbrev cX12_leave : ByteArray := prog_14_method_159_code
def yX12_leave : MethodName := ⟨RX12, "leave", "(IIII)V"⟩
abbrev cX12_enterAll : ByteArray := prog_14_method_160_code
def yX12_enterAll : MethodName := ⟨RX12, "enterAll", "(IIIZ)V"⟩
abbrev cX12_arrange : ByteArray := prog_14_method_161_code
def yX12_arrange : MethodName := ⟨RX12, "arrange", "(IIZ)V"⟩
abbrev cX12_levels : ByteArray := prog_14_method_162_code
def yX12_levels : MethodName := ⟨RX12, "levels", "(I)I"⟩
abbrev cX12_nodes : ByteArray := prog_14_method_163_code
def yX12_nodes : MethodName := ⟨RX12, "nodes", "(IZ)I"⟩
abbrev cX12_beginning : ByteArray := prog_14_method_164_code
def yX12_beginning : MethodName := ⟨RX12, "beginning", "(I)I"⟩
abbrev cX12_ending : ByteArray := prog_14_method_165_code
def yX12_ending : MethodName := ⟨RX12, "ending", "(I)I"⟩
abbrev cX12_classOfEnd : ByteArray := prog_14_method_166_code
def yX12_classOfEnd : MethodName := ⟨RX12, "classOfEnd", "(I)I"⟩
abbrev cX12_compareEnds : ByteArray := prog_14_method_167_code
def yX12_compareEnds : MethodName := ⟨RX12, "compareEnds", "(II)I"⟩
abbrev cX12_addInterval : ByteArray := prog_14_method_168_code
def yX12_addInterval : MethodName := ⟨RX12, "addInterval", "(IZIZ)V"⟩
abbrev cX12_addPoint : ByteArray := prog_14_method_169_code
def yX12_addPoint : MethodName := ⟨RX12, "addPoint", "(II)V"⟩
abbrev cX12_boundsOf : ByteArray := prog_14_method_170_code
def yX12_boundsOf : MethodName := ⟨RX12, "boundsOf", "(IZ)Z"⟩
abbrev cX12_boundsOfAny : ByteArray := prog_14_method_171_code
def yX12_boundsOfAny : MethodName := ⟨RX12, "boundsOfAny", "(IZ)Z"⟩
abbrev cX12_meetAll : ByteArray := prog_14_method_172_code
def yX12_meetAll : MethodName := ⟨RX12, "meetAll", "(II)V"⟩
abbrev cX12_collect : ByteArray := prog_14_method_173_code
def yX12_collect : MethodName := ⟨RX12, "collect", "(III)V"⟩
abbrev cX12_bounds : ByteArray := prog_14_method_174_code
def yX12_bounds : MethodName := ⟨RX12, "bounds", "(III)Z"⟩
abbrev cX12_isPoint : ByteArray := prog_14_method_175_code
def yX12_isPoint : MethodName := ⟨RX12, "isPoint", "(I)Z"⟩
abbrev cX12_isWithin : ByteArray := prog_14_method_176_code
def yX12_isWithin : MethodName := ⟨RX12, "isWithin", "(III)Z"⟩
abbrev cX12_weigh : ByteArray := prog_14_method_177_code
def yX12_weigh : MethodName := ⟨RX12, "weigh", "(II)V"⟩
abbrev cX12_choose : ByteArray := prog_14_method_178_code
def yX12_choose : MethodName := ⟨RX12, "choose", "(II)I"⟩
abbrev cX12_isLookedAt : ByteArray := prog_14_method_179_code
def yX12_isLookedAt : MethodName := ⟨RX12, "isLookedAt", "(II)Z"⟩
abbrev cX12_document : ByteArray := prog_14_method_180_code
def yX12_document : MethodName := ⟨RX12, "document", "(II)I"⟩
abbrev cX12_refuses : ByteArray := prog_14_method_181_code
def yX12_refuses : MethodName := ⟨RX12, "refuses", "(II)Z"⟩
abbrev cX12_isNone : ByteArray := prog_14_method_182_code
def yX12_isNone : MethodName := ⟨RX12, "isNone", "(I)Z"⟩
abbrev cX12_isShelf : ByteArray := prog_14_method_183_code
def yX12_isShelf : MethodName := ⟨RX12, "isShelf", "(I)Z"⟩
abbrev cX12_takesDocument : ByteArray := prog_14_method_184_code
def yX12_takesDocument : MethodName := ⟨RX12, "takesDocument", "(I)Z"⟩
abbrev cX12_isRequest : ByteArray := prog_14_method_185_code
def yX12_isRequest : MethodName := ⟨RX12, "isRequest", "()Z"⟩
abbrev cX12_arePaths : ByteArray := prog_14_method_186_code
def yX12_arePaths : MethodName := ⟨RX12, "arePaths", "(I)Z"⟩
abbrev cX12_areDirections : ByteArray := prog_14_method_187_code
def yX12_areDirections : MethodName := ⟨RX12, "areDirections", "(II)Z"⟩
abbrev cX12_filterIsRight : ByteArray := prog_14_method_188_code
def yX12_filterIsRight : MethodName := ⟨RX12, "filterIsRight", "(I)Z"⟩
abbrev cX12_match : ByteArray := prog_14_method_189_code
def yX12_match : MethodName := ⟨RX12, "match", "(II)I"⟩
abbrev cX12_beginAnswer : ByteArray := prog_14_method_190_code
def yX12_beginAnswer : MethodName := ⟨RX12, "beginAnswer", "()V"⟩
abbrev cX12_endAnswer : ByteArray := prog_14_method_191_code
def yX12_endAnswer : MethodName := ⟨RX12, "endAnswer", "()Z"⟩
abbrev cX12_does : ByteArray := prog_14_method_192_code
def yX12_does : MethodName := ⟨RX12, "does", "()Z"⟩
abbrev cX12_putFound : ByteArray := prog_14_method_193_code
def yX12_putFound : MethodName := ⟨RX12, "putFound", "(I)V"⟩
abbrev cX12_takeOut : ByteArray := prog_14_method_194_code
def yX12_takeOut : MethodName := ⟨RX12, "takeOut", "(I)V"⟩
abbrev cX12_insert : ByteArray := prog_14_method_195_code
def yX12_insert : MethodName := ⟨RX12, "insert", "(II)Z"⟩
abbrev cX12_update : ByteArray := prog_14_method_196_code
def yX12_update : MethodName := ⟨RX12, "update", "(II)Z"⟩
abbrev cX12_newIndex : ByteArray := prog_14_method_197_code
def yX12_newIndex : MethodName := ⟨RX12, "newIndex", "(II)Z"⟩
abbrev cX12_withIndex : ByteArray := prog_14_method_198_code
def yX12_withIndex : MethodName := ⟨RX12, "withIndex", "(II)Z"⟩
abbrev cX12_explain : ByteArray := prog_14_method_199_code
def yX12_explain : MethodName := ⟨RX12, "explain", "(II)Z"⟩
abbrev cX12_pipeline : ByteArray := prog_14_method_200_code
def yX12_pipeline : MethodName := ⟨RX12, "pipeline", "(II)Z"⟩
abbrev cX12_feed : ByteArray := prog_14_method_201_code
def yX12_feed : MethodName := ⟨RX12, "feed", "(IIIII)I"⟩
abbrev cX12_ask : ByteArray := prog_14_method_202_code
def yX12_ask : MethodName := ⟨RX12, "ask", "(I)I"⟩
abbrev cX12_answer : ByteArray := prog_14_method_203_code
def yX12_answer : MethodName := ⟨RX12, "answer", "(I)I"⟩
abbrev cX12_state : ByteArray := prog_14_method_204_code
def yX12_state : MethodName := ⟨RX12, "state", "(I)I"⟩
abbrev cX12_isThereOne : ByteArray := prog_14_method_205_code
def yX12_isThereOne : MethodName := ⟨RX12, "isThereOne", "(II)Z"⟩
abbrev cX12_number_ : ByteArray := prog_14_method_206_code
def yX12_number_ : MethodName := ⟨RX12, "number", "(II)I"⟩
abbrev cX12_size : ByteArray := prog_14_method_207_code
def yX12_size : MethodName := ⟨RX12, "size", "(II)I"⟩
abbrev cX12_byteAt : ByteArray := prog_14_method_208_code
def yX12_byteAt : MethodName := ⟨RX12, "byteAt", "(III)I"⟩
def RJx145de : String := "java/io/Serializable"
def RJx9f9b0 : String := "java/lang/CharSequence"
def RJx8e188 : String := "java/lang/Cloneable"
def RJxb160c : String := "java/lang/Comparable"
def RJ6 : String := "java/lang/Integer"
abbrev cJ6_compare_7cf53 : ByteArray := prog_16_method_40_code
def yJ6_compare_7cf53 : MethodName := ⟨RJ6, "compare", "(II)I"⟩
def RJ13 : String := "java/lang/Long"
abbrev cJ13_compare_74951 : ByteArray := prog_17_method_42_code
def yJ13_compare_74951 : MethodName := ⟨RJ13, "compare", "(JJ)I"⟩
def RJ9 : String := "java/lang/Math"
abbrev cJ9_max_7cf53 : ByteArray := prog_18_method_65_code
def yJ9_max_7cf53 : MethodName := ⟨RJ9, "max", "(II)I"⟩
abbrev cJ9_min_7cf53 : ByteArray := prog_18_method_69_code
def yJ9_min_7cf53 : MethodName := ⟨RJ9, "min", "(II)I"⟩
abbrev cJ9_min_f86c9 : ByteArray := prog_18_method_70_code
def yJ9_min_f86c9 : MethodName := ⟨RJ9, "min", "(JJ)J"⟩
def RJ0 : String := "java/lang/String"
abbrev cJ0_length_8abf5 : ByteArray := prog_19_method_54_code
def yJ0_length_8abf5 : MethodName := ⟨RJ0, "length", "()I"⟩
abbrev cJ0_charAt_5068e : ByteArray := prog_19_method_56_code
def yJ0_charAt_5068e : MethodName := ⟨RJ0, "charAt", "(I)C"⟩
abbrev cJ0_coder_7d493 : ByteArray := prog_19_method_152_code
def yJ0_coder_7d493 : MethodName := ⟨RJ0, "coder", "()B"⟩
abbrev cJ0_isLatin1_aae02 : ByteArray := prog_19_method_154_code
def yJ0_isLatin1_aae02 : MethodName := ⟨RJ0, "isLatin1", "()Z"⟩
abbrev cJ0_checkIndex_df160 : ByteArray := prog_19_method_155_code
def yJ0_checkIndex_df160 : MethodName := ⟨RJ0, "checkIndex", "(II)V"⟩
def RJ1 : String := "java/lang/StringLatin1"
abbrev cJ1_charAt_3b067 : ByteArray := prog_20_method_2_code
def yJ1_charAt_3b067 : MethodName := ⟨RJ1, "charAt", "([BI)C"⟩
def RJ2 : String := "java/lang/StringUTF16"
abbrev cJ2_getChar_3b067 : ByteArray := prog_21_method_5_code
def yJ2_getChar_3b067 : MethodName := ⟨RJ2, "getChar", "([BI)C"⟩
abbrev cJ2_length_9d52b : ByteArray := prog_21_method_6_code
def yJ2_length_9d52b : MethodName := ⟨RJ2, "length", "([B)I"⟩
abbrev cJ2_charAt_3b067 : ByteArray := prog_21_method_83_code
def yJ2_charAt_3b067 : MethodName := ⟨RJ2, "charAt", "([BI)C"⟩
abbrev cJ2_checkIndex_2214a : ByteArray := prog_21_method_91_code
def yJ2_checkIndex_2214a : MethodName := ⟨RJ2, "checkIndex", "(I[B)V"⟩
def RJ10 : String := "java/lang/System"
def RJxfd54e : String := "java/lang/constant/Constable"
def RJx3cf43 : String := "java/lang/constant/ConstantDesc"
def RJ7 : String := "java/util/Arrays"
abbrev cJ7_copyOf_9075b : ByteArray := prog_23_method_121_code
def yJ7_copyOf_9075b : MethodName := ⟨RJ7, "copyOf", "([BI)[B"⟩
abbrev cJ7_copyOf_59c91 : ByteArray := prog_23_method_123_code
def yJ7_copyOf_59c91 : MethodName := ⟨RJ7, "copyOf", "([II)[I"⟩
def RJ3 : String := "jdk/internal/util/Preconditions"
abbrev cJ3_checkIndex_8e157 : ByteArray := prog_24_method_11_code
def yJ3_checkIndex_8e157 : MethodName := ⟨RJ3, "checkIndex", "(IILjava/util/function/BiFunction;)I"⟩
def RL : String := "DocumentHouseLaw"
abbrev vwCl : List vw_C := [(RX0, TX0, 6), (RX1, TX1, 9), (RX2, TX2, 6), (RX3, TX3, 14), (RX4, TX4, 4), (RX5, TX5, 5), (RX6, TX6, 3), (RX7, TX7, 3), (RX8, TX8, 10), (RX9, TX9, 20), (RX10, TX10, 19), (RX11, TX11, 19), (RX12, TX12, 78)]
end
section
def RL0 : String := "DocumentHouseLaw"
def RS0 : String := "java/lang/String"
def RS1 : String := "java/lang/StringLatin1"
theorem q_lwt {i : Nat} {w : Cond} (h : tables_1[i]? = some w) : w ∈ lw_tbl := List.mem_append_right _ (List.mem_of_getElem? h)
theorem q_lws {i : Nat} {y : MethodName × Nat} (h : lw_privs[i]? = some y) : Cond.selects y.1.cls y.1 y.1 ∈ lw_tbl := List.mem_append_left _ (List.mem_map.mpr ⟨y, List.mem_of_getElem? h, rfl⟩)
/-- the words that every method carries -/
def q_big : List Cond := lw_tbl.filter goodWord
theorem q_mem {w : Cond} (h : w ∈ lw_tbl) (hg : goodWord w = true) : w ∈ q_big := List.mem_filter.mpr ⟨h, hg⟩
def q_isN (w : Cond) : Bool := match w with
  | .fieldLinkNest .. => true
  | .methodLinkNest .. => true
  | _ => false
/-- the words of nest mates -/
def q_nst : List Cond := lw_tbl.filter q_isN
theorem q_memN {w : Cond} (h : w ∈ lw_tbl) (hg : q_isN w = true) : w ∈ q_nst := List.mem_filter.mpr ⟨h, hg⟩
def q_R (o : Nat) : String := match o with
  | 0 => RX0
  | 1 => RX1
  | 2 => RX2
  | 3 => RX3
  | 4 => RX4
  | 5 => RX5
  | 6 => RX6
  | 7 => RX7
  | 8 => RX8
  | 9 => RX9
  | 10 => RX10
  | 11 => RX11
  | 12 => RX12
  | 13 => RL0
  | 14 => RS0
  | _ => RS1
def q_TX (o : Nat) : u_T := match o with
  | 0 => TX0
  | 1 => TX1
  | 2 => TX2
  | 3 => TX3
  | 4 => TX4
  | 5 => TX5
  | 6 => TX6
  | 7 => TX7
  | 8 => TX8
  | 9 => TX9
  | 10 => TX10
  | 11 => TX11
  | _ => TX12
def q_Ty (o : Nat) : Nat → FieldType := match o with
  | 0 => tyX0
  | 1 => tyX1
  | 2 => tyX2
  | 3 => tyX3
  | 4 => tyX4
  | 5 => tyX5
  | 6 => tyX6
  | 7 => tyX7
  | 8 => tyX8
  | 9 => tyX9
  | 10 => tyX10
  | 11 => tyX11
  | _ => tyX12
def q_N (o : Nat) : Nat := match o with
  | 0 => 6
  | 1 => 9
  | 2 => 6
  | 3 => 14
  | 4 => 4
  | 5 => 5
  | 6 => 3
  | 7 => 3
  | 8 => 10
  | 9 => 20
  | 10 => 19
  | 11 => 19
  | 12 => 78
  | _ => 0
theorem q_vw : ∀ ci, ci < 13 → vwCl[ci]? = some (q_R ci, q_TX ci, q_N ci)
  | 0, _ => rfl
  | 1, _ => rfl
  | 2, _ => rfl
  | 3, _ => rfl
  | 4, _ => rfl
  | 5, _ => rfl
  | 6, _ => rfl
  | 7, _ => rfl
  | 8, _ => rfl
  | 9, _ => rfl
  | 10, _ => rfl
  | 11, _ => rfl
  | 12, _ => rfl
  | n + 13, h => absurd h (by omega)
theorem q_ty_ok : ∀ ci, ci < 13 → ∀ k, k < q_N ci → parseFieldDescriptor (q_TX ci k).2.2.1 = some (q_Ty ci k)
  | 0, _ => tyX0_ok
  | 1, _ => tyX1_ok
  | 2, _ => tyX2_ok
  | 3, _ => tyX3_ok
  | 4, _ => tyX4_ok
  | 5, _ => tyX5_ok
  | 6, _ => tyX6_ok
  | 7, _ => tyX7_ok
  | 8, _ => tyX8_ok
  | 9, _ => tyX9_ok
  | 10, _ => tyX10_ok
  | 11, _ => tyX11_ok
  | 12, _ => tyX12_ok
  | n + 13, h => absurd h (by omega)
theorem q_nm_ok : ∀ ci, ci < 13 → ∀ a, a < q_N ci → ∀ b, b < q_N ci → a ≠ b → (q_TX ci a).2.1 ≠ (q_TX ci b).2.1
  | 0, _ => nmX0
  | 1, _ => nmX1
  | 2, _ => nmX2
  | 3, _ => nmX3
  | 4, _ => nmX4
  | 5, _ => nmX5
  | 6, _ => nmX6
  | 7, _ => nmX7
  | 8, _ => nmX8
  | 9, _ => nmX9
  | 10, _ => nmX10
  | 11, _ => nmX11
  | 12, _ => nmX12
  | n + 13, h => absurd h (by omega)
theorem q_chk {L : List (Nat × Cond)} (h : L.all (fun q => decide (tables_1[q.1]? = some q.2)) = true) : ∀ q ∈ L, q.2 ∈ lw_tbl := fun q hq => q_lwt (of_decide_eq_true (List.all_eq_true.mp h q hq))
set_option maxRecDepth 100000 in
theorem q_lay0 : ∀ w ∈ u_ws RX0 TX0 6, w ∈ lw_tbl := by
  have h := q_chk (L := ([296, 298, 300, 302, 304, 306] : List Nat).zip (u_ws RX0 TX0 6)) (by decide +kernel)
  intro w hw
  obtain ⟨j, hj, rfl⟩ := List.mem_map.mp hw
  have hj2 := List.mem_range.mp hj
  refine h (([296, 298, 300, 302, 304, 306] : List Nat)[j]'(by exact hj2), u_lay RX0 TX0 j) ?_
  rw [List.mem_iff_getElem]
  exact ⟨j, by simpa [u_ws] using hj2, by simp [u_ws, List.getElem_zip]⟩
set_option maxRecDepth 100000 in
theorem q_lay1 : ∀ w ∈ u_ws RX1 TX1 9, w ∈ lw_tbl := by
  have h := q_chk (L := ([185, 187, 189, 191, 193, 195, 197, 199, 201] : List Nat).zip (u_ws RX1 TX1 9)) (by decide +kernel)
  intro w hw
  obtain ⟨j, hj, rfl⟩ := List.mem_map.mp hw
  have hj2 := List.mem_range.mp hj
  refine h (([185, 187, 189, 191, 193, 195, 197, 199, 201] : List Nat)[j]'(by exact hj2), u_lay RX1 TX1 j) ?_
  rw [List.mem_iff_getElem]
  exact ⟨j, by simpa [u_ws] using hj2, by simp [u_ws, List.getElem_zip]⟩
set_option maxRecDepth 100000 in
theorem q_lay2 : ∀ w ∈ u_ws RX2 TX2 6, w ∈ lw_tbl := by
  have h := q_chk (L := ([149, 151, 153, 155, 157, 159] : List Nat).zip (u_ws RX2 TX2 6)) (by decide +kernel)
  intro w hw
  obtain ⟨j, hj, rfl⟩ := List.mem_map.mp hw
  have hj2 := List.mem_range.mp hj
  refine h (([149, 151, 153, 155, 157, 159] : List Nat)[j]'(by exact hj2), u_lay RX2 TX2 j) ?_
  rw [List.mem_iff_getElem]
  exact ⟨j, by simpa [u_ws] using hj2, by simp [u_ws, List.getElem_zip]⟩
set_option maxRecDepth 100000 in
theorem q_lay3 : ∀ w ∈ u_ws RX3 TX3 14, w ∈ lw_tbl := by
  have h := q_chk (L := ([427, 429, 431, 433, 435, 437, 439, 441, 443, 445, 447, 449, 451, 453] : List Nat).zip (u_ws RX3 TX3 14)) (by decide +kernel)
  intro w hw
  obtain ⟨j, hj, rfl⟩ := List.mem_map.mp hw
  have hj2 := List.mem_range.mp hj
  refine h (([427, 429, 431, 433, 435, 437, 439, 441, 443, 445, 447, 449, 451, 453] : List Nat)[j]'(by exact hj2), u_lay RX3 TX3 j) ?_
  rw [List.mem_iff_getElem]
  exact ⟨j, by simpa [u_ws] using hj2, by simp [u_ws, List.getElem_zip]⟩
set_option maxRecDepth 100000 in
theorem q_lay4 : ∀ w ∈ u_ws RX4 TX4 4, w ∈ lw_tbl := by
  have h := q_chk (L := ([76, 78, 80, 82] : List Nat).zip (u_ws RX4 TX4 4)) (by decide +kernel)
  intro w hw
  obtain ⟨j, hj, rfl⟩ := List.mem_map.mp hw
  have hj2 := List.mem_range.mp hj
  refine h (([76, 78, 80, 82] : List Nat)[j]'(by exact hj2), u_lay RX4 TX4 j) ?_
  rw [List.mem_iff_getElem]
  exact ⟨j, by simpa [u_ws] using hj2, by simp [u_ws, List.getElem_zip]⟩
set_option maxRecDepth 100000 in
theorem q_lay5 : ∀ w ∈ u_ws RX5 TX5 5, w ∈ lw_tbl := by
  have h := q_chk (L := ([130, 132, 134, 136, 138] : List Nat).zip (u_ws RX5 TX5 5)) (by decide +kernel)
  intro w hw
  obtain ⟨j, hj, rfl⟩ := List.mem_map.mp hw
  have hj2 := List.mem_range.mp hj
  refine h (([130, 132, 134, 136, 138] : List Nat)[j]'(by exact hj2), u_lay RX5 TX5 j) ?_
  rw [List.mem_iff_getElem]
  exact ⟨j, by simpa [u_ws] using hj2, by simp [u_ws, List.getElem_zip]⟩
set_option maxRecDepth 100000 in
theorem q_lay6 : ∀ w ∈ u_ws RX6 TX6 3, w ∈ lw_tbl := by
  have h := q_chk (L := ([96, 98, 100] : List Nat).zip (u_ws RX6 TX6 3)) (by decide +kernel)
  intro w hw
  obtain ⟨j, hj, rfl⟩ := List.mem_map.mp hw
  have hj2 := List.mem_range.mp hj
  refine h (([96, 98, 100] : List Nat)[j]'(by exact hj2), u_lay RX6 TX6 j) ?_
  rw [List.mem_iff_getElem]
  exact ⟨j, by simpa [u_ws] using hj2, by simp [u_ws, List.getElem_zip]⟩
set_option maxRecDepth 100000 in
theorem q_lay7 : ∀ w ∈ u_ws RX7 TX7 3, w ∈ lw_tbl := by
  have h := q_chk (L := ([52, 54, 56] : List Nat).zip (u_ws RX7 TX7 3)) (by decide +kernel)
  intro w hw
  obtain ⟨j, hj, rfl⟩ := List.mem_map.mp hw
  have hj2 := List.mem_range.mp hj
  refine h (([52, 54, 56] : List Nat)[j]'(by exact hj2), u_lay RX7 TX7 j) ?_
  rw [List.mem_iff_getElem]
  exact ⟨j, by simpa [u_ws] using hj2, by simp [u_ws, List.getElem_zip]⟩
set_option maxRecDepth 100000 in
theorem q_lay8 : ∀ w ∈ u_ws RX8 TX8 10, w ∈ lw_tbl := by
  have h := q_chk (L := ([479, 481, 483, 485, 487, 489, 491, 493, 495, 497] : List Nat).zip (u_ws RX8 TX8 10)) (by decide +kernel)
  intro w hw
  obtain ⟨j, hj, rfl⟩ := List.mem_map.mp hw
  have hj2 := List.mem_range.mp hj
  refine h (([479, 481, 483, 485, 487, 489, 491, 493, 495, 497] : List Nat)[j]'(by exact hj2), u_lay RX8 TX8 j) ?_
  rw [List.mem_iff_getElem]
  exact ⟨j, by simpa [u_ws] using hj2, by simp [u_ws, List.getElem_zip]⟩
set_option maxRecDepth 100000 in
theorem q_lay9 : ∀ w ∈ u_ws RX9 TX9 20, w ∈ lw_tbl := by
  have h := q_chk (L := ([240, 242, 244, 246, 248, 250, 252, 254, 256, 258, 260, 262, 264, 266, 268, 270, 272, 274, 276, 278] : List Nat).zip (u_ws RX9 TX9 20)) (by decide +kernel)
  intro w hw
  obtain ⟨j, hj, rfl⟩ := List.mem_map.mp hw
  have hj2 := List.mem_range.mp hj
  refine h (([240, 242, 244, 246, 248, 250, 252, 254, 256, 258, 260, 262, 264, 266, 268, 270, 272, 274, 276, 278] : List Nat)[j]'(by exact hj2), u_lay RX9 TX9 j) ?_
  rw [List.mem_iff_getElem]
  exact ⟨j, by simpa [u_ws] using hj2, by simp [u_ws, List.getElem_zip]⟩
set_option maxRecDepth 100000 in
theorem q_lay10 : ∀ w ∈ u_ws RX10 TX10 19, w ∈ lw_tbl := by
  have h := q_chk (L := ([361, 363, 365, 367, 369, 371, 373, 375, 377, 379, 381, 383, 385, 387, 389, 391, 393, 395, 397] : List Nat).zip (u_ws RX10 TX10 19)) (by decide +kernel)
  intro w hw
  obtain ⟨j, hj, rfl⟩ := List.mem_map.mp hw
  have hj2 := List.mem_range.mp hj
  refine h (([361, 363, 365, 367, 369, 371, 373, 375, 377, 379, 381, 383, 385, 387, 389, 391, 393, 395, 397] : List Nat)[j]'(by exact hj2), u_lay RX10 TX10 j) ?_
  rw [List.mem_iff_getElem]
  exact ⟨j, by simpa [u_ws] using hj2, by simp [u_ws, List.getElem_zip]⟩
set_option maxRecDepth 100000 in
theorem q_lay11 : ∀ w ∈ u_ws RX11 TX11 19, w ∈ lw_tbl := by
  have h := q_chk (L := ([520, 522, 524, 526, 528, 530, 532, 534, 536, 538, 540, 542, 544, 546, 548, 550, 552, 554, 556] : List Nat).zip (u_ws RX11 TX11 19)) (by decide +kernel)
  intro w hw
  obtain ⟨j, hj, rfl⟩ := List.mem_map.mp hw
  have hj2 := List.mem_range.mp hj
  refine h (([520, 522, 524, 526, 528, 530, 532, 534, 536, 538, 540, 542, 544, 546, 548, 550, 552, 554, 556] : List Nat)[j]'(by exact hj2), u_lay RX11 TX11 j) ?_
  rw [List.mem_iff_getElem]
  exact ⟨j, by simpa [u_ws] using hj2, by simp [u_ws, List.getElem_zip]⟩
set_option maxRecDepth 100000 in
theorem q_lay12 : ∀ w ∈ u_ws RX12 TX12 78, w ∈ lw_tbl := by
  have h := q_chk (L := ([1802, 1804, 1806, 1808, 1810, 1812, 1814, 1816, 1818, 1820, 1822, 1824, 1826, 1828, 1830, 1832, 1834, 1836, 1838, 1840, 1842, 1844, 1846, 1848, 1850, 1852, 1854, 1856, 1858, 1860, 1862, 1864, 1866, 1868, 1870, 1872, 1874, 1876, 1878, 1880, 1882, 1884, 1886, 1888, 1890, 1892, 1894, 1896, 1898, 1900, 1902, 1904, 1906, 1908, 1910, 1912, 1914, 1916, 1918, 1920, 1922, 1924, 1926, 1928, 1930, 1932, 1934, 1936, 1938, 1940, 1942, 1944, 1946, 1948, 1950, 1952, 1954, 1956] : List Nat).zip (u_ws RX12 TX12 78)) (by decide +kernel)
  intro w hw
  obtain ⟨j, hj, rfl⟩ := List.mem_map.mp hw
  have hj2 := List.mem_range.mp hj
  refine h (([1802, 1804, 1806, 1808, 1810, 1812, 1814, 1816, 1818, 1820, 1822, 1824, 1826, 1828, 1830, 1832, 1834, 1836, 1838, 1840, 1842, 1844, 1846, 1848, 1850, 1852, 1854, 1856, 1858, 1860, 1862, 1864, 1866, 1868, 1870, 1872, 1874, 1876, 1878, 1880, 1882, 1884, 1886, 1888, 1890, 1892, 1894, 1896, 1898, 1900, 1902, 1904, 1906, 1908, 1910, 1912, 1914, 1916, 1918, 1920, 1922, 1924, 1926, 1928, 1930, 1932, 1934, 1936, 1938, 1940, 1942, 1944, 1946, 1948, 1950, 1952, 1954, 1956] : List Nat)[j]'(by exact hj2), u_lay RX12 TX12 j) ?_
  rw [List.mem_iff_getElem]
  exact ⟨j, by simpa [u_ws] using hj2, by simp [u_ws, List.getElem_zip]⟩
theorem q_lay_ok : ∀ ci, ci < 13 → ∀ w ∈ u_ws (q_R ci) (q_TX ci) (q_N ci), w ∈ lw_tbl
  | 0, _ => q_lay0
  | 1, _ => q_lay1
  | 2, _ => q_lay2
  | 3, _ => q_lay3
  | 4, _ => q_lay4
  | 5, _ => q_lay5
  | 6, _ => q_lay6
  | 7, _ => q_lay7
  | 8, _ => q_lay8
  | 9, _ => q_lay9
  | 10, _ => q_lay10
  | 11, _ => q_lay11
  | 12, _ => q_lay12
  | n + 13, h => absurd h (by omega)
theorem q_layG : ∀ (C : String) (T : u_T) (N : Nat), ∀ w ∈ u_ws C T N, goodWord w = true := by
  intro C T N w hw
  obtain ⟨j, -, rfl⟩ := List.mem_map.mp hw
  unfold u_lay
  split <;> rfl
theorem q_lay_big {ci : Nat} (h : ci < 13) : ∀ w ∈ u_ws (q_R ci) (q_TX ci) (q_N ci), w ∈ q_big := fun w hw => q_mem (q_lay_ok ci h w hw) (q_layG _ _ _ w hw)
theorem q_inst : ∀ ci, ci < 13 → Cond.instantiable (q_R ci) (q_N ci) ∈ lw_tbl
  | 0, _ => q_lwt (i := 282) (by decide +kernel)
  | 1, _ => q_lwt (i := 163) (by decide +kernel)
  | 2, _ => q_lwt (i := 104) (by decide +kernel)
  | 3, _ => q_lwt (i := 323) (by decide +kernel)
  | 4, _ => q_lwt (i := 62) (by decide +kernel)
  | 5, _ => q_lwt (i := 110) (by decide +kernel)
  | 6, _ => q_lwt (i := 86) (by decide +kernel)
  | 7, _ => q_lwt (i := 32) (by decide +kernel)
  | 8, _ => q_lwt (i := 313) (by decide +kernel)
  | 9, _ => q_lwt (i := 205) (by decide +kernel)
  | 10, _ => q_lwt (i := 331) (by decide +kernel)
  | 11, _ => q_lwt (i := 24) (by decide +kernel)
  | 12, _ => q_lwt (i := 1703) (by decide +kernel)
  | n + 13, h => absurd h (by omega)
theorem q_init : ∀ ci, ci < 13 → Cond.initialized (q_R ci) ∈ lw_tbl
  | 0, _ => q_lwt (i := 9) (by decide +kernel)
  | 1, _ => q_lwt (i := 7) (by decide +kernel)
  | 2, _ => q_lwt (i := 5) (by decide +kernel)
  | 3, _ => q_lwt (i := 11) (by decide +kernel)
  | 4, _ => q_lwt (i := 3) (by decide +kernel)
  | 5, _ => q_lwt (i := 6) (by decide +kernel)
  | 6, _ => q_lwt (i := 4) (by decide +kernel)
  | 7, _ => q_lwt (i := 2) (by decide +kernel)
  | 8, _ => q_lwt (i := 10) (by decide +kernel)
  | 9, _ => q_lwt (i := 8) (by decide +kernel)
  | 10, _ => q_lwt (i := 12) (by decide +kernel)
  | 11, _ => q_lwt (i := 1) (by decide +kernel)
  | 12, _ => q_lwt (i := 13) (by decide +kernel)
  | n + 13, h => absurd h (by omega)
def q_fldT (o : Nat) : List (Nat × Nat × Nat × Nat × Nat) := match o with
  | 0 => [(15, 7, 0, 1, 42), (86, 7, 2, 1, 49), (9, 0, 0, 0, 288), (21, 0, 1, 0, 289), (26, 0, 2, 0, 290), (29, 0, 3, 0, 291), (33, 0, 4, 0, 292), (37, 0, 5, 0, 294), (58, 3, 5, 1, 410), (68, 3, 6, 1, 412), (61, 3, 7, 1, 413), (71, 3, 8, 1, 415), (49, 8, 2, 1, 460), (44, 8, 6, 1, 472)]
  | 1 => [(150, 5, 0, 1, 116), (151, 5, 1, 1, 119), (154, 5, 2, 1, 122), (143, 5, 3, 1, 125), (9, 1, 0, 0, 173), (18, 1, 1, 0, 174), (22, 1, 2, 0, 175), (32, 1, 3, 0, 176), (137, 1, 4, 0, 177), (111, 1, 5, 0, 178), (114, 1, 6, 0, 179), (54, 1, 7, 0, 181), (58, 1, 8, 0, 183)]
  | 2 => [(15, 7, 0, 1, 40), (147, 7, 2, 1, 50), (111, 5, 4, 1, 128), (9, 2, 0, 0, 141), (21, 2, 1, 0, 142), (27, 2, 2, 0, 143), (82, 2, 3, 0, 144), (86, 2, 4, 0, 145), (93, 2, 5, 0, 147)]
  | 3 => [(15, 7, 0, 1, 43), (133, 7, 2, 1, 48), (120, 10, 12, 1, 349), (73, 10, 13, 1, 351), (114, 10, 15, 1, 354), (9, 3, 0, 0, 401), (21, 3, 1, 0, 402), (27, 3, 2, 0, 403), (31, 3, 3, 0, 405), (37, 3, 4, 0, 407), (41, 3, 5, 0, 409), (45, 3, 6, 0, 411), (127, 3, 7, 0, 414), (130, 3, 8, 0, 416), (83, 3, 9, 0, 417), (69, 3, 10, 0, 420), (77, 3, 11, 0, 422), (80, 3, 12, 0, 424), (117, 3, 13, 0, 426), (157, 8, 2, 1, 461), (160, 8, 3, 1, 464), (152, 8, 6, 1, 473)]
  | 4 => [(9, 4, 0, 0, 67), (15, 4, 1, 0, 69), (19, 4, 2, 0, 72), (31, 4, 3, 0, 73)]
  | 5 => [(51, 7, 0, 1, 45), (18, 5, 0, 0, 115), (9, 5, 1, 0, 118), (15, 5, 2, 0, 121), (22, 5, 3, 0, 124), (26, 5, 4, 0, 127)]
  | 6 => [(9, 6, 0, 0, 91), (19, 6, 1, 0, 92), (23, 6, 2, 0, 94)]
  | 7 => [(10, 7, 0, 0, 39), (16, 7, 1, 0, 46), (20, 7, 2, 0, 47)]
  | 8 => [(9, 7, 0, 1, 38), (84, 3, 9, 1, 418), (15, 8, 0, 0, 456), (20, 8, 1, 0, 457), (27, 8, 2, 0, 458), (31, 8, 3, 0, 463), (46, 8, 4, 0, 466), (40, 8, 5, 0, 468), (60, 8, 6, 0, 471), (75, 8, 7, 0, 475), (78, 8, 8, 0, 477), (24, 8, 9, 0, 478)]
  | 9 => [(15, 7, 0, 1, 41), (374, 7, 2, 1, 51), (195, 4, 1, 1, 71), (197, 4, 3, 1, 75), (230, 5, 0, 1, 117), (231, 5, 1, 1, 120), (234, 5, 2, 1, 123), (223, 5, 3, 1, 126), (361, 5, 4, 1, 129), (9, 9, 0, 0, 218), (21, 9, 1, 0, 219), (27, 9, 2, 0, 220), (31, 9, 3, 0, 221), (40, 9, 4, 0, 222), (45, 9, 5, 0, 223), (48, 9, 6, 0, 224), (52, 9, 7, 0, 226), (55, 9, 8, 0, 227), (58, 9, 9, 0, 228), (61, 9, 10, 0, 229), (66, 9, 11, 0, 230), (69, 9, 12, 0, 231), (94, 9, 13, 0, 232), (84, 9, 14, 0, 233), (168, 9, 15, 0, 235), (171, 9, 16, 0, 236), (98, 9, 17, 0, 237), (174, 9, 18, 0, 238), (178, 9, 19, 0, 239), (85, 8, 2, 1, 459), (72, 8, 6, 1, 470)]
  | 10 => [(11, 10, 0, 0, 336), (15, 10, 1, 0, 337), (19, 10, 2, 0, 338), (60, 10, 3, 0, 339), (22, 10, 4, 0, 340), (25, 10, 5, 0, 341), (28, 10, 6, 0, 342), (31, 10, 7, 0, 343), (35, 10, 8, 0, 344), (63, 10, 9, 0, 345), (38, 10, 10, 0, 346), (41, 10, 11, 0, 347), (44, 10, 12, 0, 348), (48, 10, 13, 0, 350), (70, 10, 14, 0, 352), (51, 10, 15, 0, 353), (54, 10, 16, 0, 356), (57, 10, 17, 0, 358), (77, 10, 18, 0, 360)]
  | 11 => [(12, 7, 0, 1, 44), (188, 4, 0, 1, 68), (178, 4, 1, 1, 70), (171, 4, 3, 1, 74), (122, 6, 1, 1, 93), (123, 6, 2, 1, 95), (310, 2, 4, 1, 146), (311, 2, 5, 1, 148), (354, 1, 6, 1, 180), (343, 1, 7, 1, 182), (344, 1, 8, 1, 184), (435, 9, 6, 1, 225), (434, 9, 14, 1, 234), (453, 0, 4, 1, 293), (456, 0, 5, 1, 295), (396, 10, 15, 1, 355), (406, 10, 16, 1, 357), (410, 10, 17, 1, 359), (438, 3, 2, 1, 404), (447, 3, 3, 1, 406), (390, 3, 4, 1, 408), (375, 3, 9, 1, 419), (444, 3, 10, 1, 421), (413, 3, 11, 1, 423), (418, 3, 12, 1, 425), (204, 8, 2, 1, 462), (201, 8, 3, 1, 465), (289, 8, 4, 1, 467), (345, 8, 5, 1, 469), (189, 8, 6, 1, 474), (191, 8, 7, 1, 476), (16, 11, 0, 0, 501), (24, 11, 1, 0, 502), (33, 11, 2, 0, 503), (42, 11, 3, 0, 504), (49, 11, 4, 0, 505), (56, 11, 5, 0, 506), (63, 11, 6, 0, 507), (70, 11, 7, 0, 508), (74, 11, 8, 0, 509), (83, 11, 9, 0, 510), (87, 11, 10, 0, 511), (91, 11, 11, 0, 512), (99, 11, 12, 0, 513), (135, 11, 13, 0, 514), (213, 11, 14, 0, 515), (233, 11, 15, 0, 516), (95, 11, 16, 0, 517), (107, 11, 17, 0, 518), (187, 11, 18, 0, 519)]
  | 12 => [(10, 12, 0, 0, 1724), (14, 12, 1, 0, 1725), (1013, 12, 2, 0, 1726), (1027, 12, 3, 0, 1727), (194, 12, 4, 0, 1728), (197, 12, 5, 0, 1729), (200, 12, 6, 0, 1730), (224, 12, 7, 0, 1731), (227, 12, 8, 0, 1732), (19, 12, 9, 0, 1733), (297, 12, 10, 0, 1734), (342, 12, 11, 0, 1735), (22, 12, 12, 0, 1736), (452, 12, 13, 0, 1737), (462, 12, 14, 0, 1738), (471, 12, 15, 0, 1739), (474, 12, 16, 0, 1740), (520, 12, 17, 0, 1741), (25, 12, 18, 0, 1742), (622, 12, 19, 0, 1743), (28, 12, 20, 0, 1744), (671, 12, 21, 0, 1745), (31, 12, 22, 0, 1746), (610, 12, 23, 0, 1747), (616, 12, 24, 0, 1748), (613, 12, 25, 0, 1749), (548, 12, 26, 0, 1750), (533, 12, 27, 0, 1751), (536, 12, 28, 0, 1752), (539, 12, 29, 0, 1753), (34, 12, 30, 0, 1754), (37, 12, 31, 0, 1755), (677, 12, 32, 0, 1756), (683, 12, 33, 0, 1757), (40, 12, 34, 0, 1758), (43, 12, 35, 0, 1759), (47, 12, 36, 0, 1760), (50, 12, 37, 0, 1761), (53, 12, 38, 0, 1762), (56, 12, 39, 0, 1763), (712, 12, 40, 0, 1764), (730, 12, 41, 0, 1765), (724, 12, 42, 0, 1766), (727, 12, 43, 0, 1767), (733, 12, 44, 0, 1768), (59, 12, 45, 0, 1769), (62, 12, 46, 0, 1770), (65, 12, 47, 0, 1771), (69, 12, 48, 0, 1772), (72, 12, 49, 0, 1773), (75, 12, 50, 0, 1774), (79, 12, 51, 0, 1775), (82, 12, 52, 0, 1776), (85, 12, 53, 0, 1777), (88, 12, 54, 0, 1778), (775, 12, 55, 0, 1779), (778, 12, 56, 0, 1780), (91, 12, 57, 0, 1781), (94, 12, 58, 0, 1782), (97, 12, 59, 0, 1783), (100, 12, 60, 0, 1784), (812, 12, 61, 0, 1785), (103, 12, 62, 0, 1786), (106, 12, 63, 0, 1787), (841, 12, 64, 0, 1788), (847, 12, 65, 0, 1789), (850, 12, 66, 0, 1790), (856, 12, 67, 0, 1791), (109, 12, 68, 0, 1792), (112, 12, 69, 0, 1793), (115, 12, 70, 0, 1794), (118, 12, 71, 0, 1795), (121, 12, 72, 0, 1796), (124, 12, 73, 0, 1797), (127, 12, 74, 0, 1798), (130, 12, 75, 0, 1799), (133, 12, 76, 0, 1800), (917, 12, 77, 0, 1801)]
  | _ => []
def q_fldW (o : Nat) (q : Nat × Nat × Nat × Nat × Nat) : Cond := if q.2.2.2.1 = 0 then .fieldLink (q_R o) q.1 (q_TX q.2.1 q.2.2.1).1 (q_TX q.2.1 q.2.2.1).2.1 (q_TX q.2.1 q.2.2.1).2.2.1 else .fieldLinkNest (q_R o) q.1 (q_TX q.2.1 q.2.2.1).1 (q_TX q.2.1 q.2.2.1).2.1 (q_TX q.2.1 q.2.2.1).2.2.1 "DocumentHouse"
set_option maxRecDepth 100000 in
theorem q_fldC_0 : (q_fldT 0).all (fun q => decide (tables_1[q.2.2.2.2]? = some (q_fldW 0 q)) && decide (q.2.1 < 13) && decide (q.2.2.1 < q_N q.2.1) && decide ((q_TX q.2.1 q.2.2.1).1 = q_R q.2.1)) = true := by decide +kernel
set_option maxRecDepth 100000 in
theorem q_fldC_1 : (q_fldT 1).all (fun q => decide (tables_1[q.2.2.2.2]? = some (q_fldW 1 q)) && decide (q.2.1 < 13) && decide (q.2.2.1 < q_N q.2.1) && decide ((q_TX q.2.1 q.2.2.1).1 = q_R q.2.1)) = true := by decide +kernel
set_option maxRecDepth 100000 in
theorem q_fldC_2 : (q_fldT 2).all (fun q => decide (tables_1[q.2.2.2.2]? = some (q_fldW 2 q)) && decide (q.2.1 < 13) && decide (q.2.2.1 < q_N q.2.1) && decide ((q_TX q.2.1 q.2.2.1).1 = q_R q.2.1)) = true := by decide +kernel
set_option maxRecDepth 100000 in
theorem q_fldC_3 : (q_fldT 3).all (fun q => decide (tables_1[q.2.2.2.2]? = some (q_fldW 3 q)) && decide (q.2.1 < 13) && decide (q.2.2.1 < q_N q.2.1) && decide ((q_TX q.2.1 q.2.2.1).1 = q_R q.2.1)) = true := by decide +kernel
set_option maxRecDepth 100000 in
theorem q_fldC_4 : (q_fldT 4).all (fun q => decide (tables_1[q.2.2.2.2]? = some (q_fldW 4 q)) && decide (q.2.1 < 13) && decide (q.2.2.1 < q_N q.2.1) && decide ((q_TX q.2.1 q.2.2.1).1 = q_R q.2.1)) = true := by decide +kernel
set_option maxRecDepth 100000 in
theorem q_fldC_5 : (q_fldT 5).all (fun q => decide (tables_1[q.2.2.2.2]? = some (q_fldW 5 q)) && decide (q.2.1 < 13) && decide (q.2.2.1 < q_N q.2.1) && decide ((q_TX q.2.1 q.2.2.1).1 = q_R q.2.1)) = true := by decide +kernel
set_option maxRecDepth 100000 in
theorem q_fldC_6 : (q_fldT 6).all (fun q => decide (tables_1[q.2.2.2.2]? = some (q_fldW 6 q)) && decide (q.2.1 < 13) && decide (q.2.2.1 < q_N q.2.1) && decide ((q_TX q.2.1 q.2.2.1).1 = q_R q.2.1)) = true := by decide +kernel
set_option maxRecDepth 100000 in
theorem q_fldC_7 : (q_fldT 7).all (fun q => decide (tables_1[q.2.2.2.2]? = some (q_fldW 7 q)) && decide (q.2.1 < 13) && decide (q.2.2.1 < q_N q.2.1) && decide ((q_TX q.2.1 q.2.2.1).1 = q_R q.2.1)) = true := by decide +kernel
set_option maxRecDepth 100000 in
theorem q_fldC_8 : (q_fldT 8).all (fun q => decide (tables_1[q.2.2.2.2]? = some (q_fldW 8 q)) && decide (q.2.1 < 13) && decide (q.2.2.1 < q_N q.2.1) && decide ((q_TX q.2.1 q.2.2.1).1 = q_R q.2.1)) = true := by decide +kernel
set_option maxRecDepth 100000 in
theorem q_fldC_9 : (q_fldT 9).all (fun q => decide (tables_1[q.2.2.2.2]? = some (q_fldW 9 q)) && decide (q.2.1 < 13) && decide (q.2.2.1 < q_N q.2.1) && decide ((q_TX q.2.1 q.2.2.1).1 = q_R q.2.1)) = true := by decide +kernel
set_option maxRecDepth 100000 in
theorem q_fldC_10 : (q_fldT 10).all (fun q => decide (tables_1[q.2.2.2.2]? = some (q_fldW 10 q)) && decide (q.2.1 < 13) && decide (q.2.2.1 < q_N q.2.1) && decide ((q_TX q.2.1 q.2.2.1).1 = q_R q.2.1)) = true := by decide +kernel
set_option maxRecDepth 100000 in
theorem q_fldC_11 : (q_fldT 11).all (fun q => decide (tables_1[q.2.2.2.2]? = some (q_fldW 11 q)) && decide (q.2.1 < 13) && decide (q.2.2.1 < q_N q.2.1) && decide ((q_TX q.2.1 q.2.2.1).1 = q_R q.2.1)) = true := by decide +kernel
set_option maxRecDepth 100000 in
theorem q_fldC_12 : (q_fldT 12).all (fun q => decide (tables_1[q.2.2.2.2]? = some (q_fldW 12 q)) && decide (q.2.1 < 13) && decide (q.2.2.1 < q_N q.2.1) && decide ((q_TX q.2.1 q.2.2.1).1 = q_R q.2.1)) = true := by decide +kernel
set_option maxRecDepth 100000 in
theorem q_fldC_13 : (q_fldT 13).all (fun q => decide (tables_1[q.2.2.2.2]? = some (q_fldW 13 q)) && decide (q.2.1 < 13) && decide (q.2.2.1 < q_N q.2.1) && decide ((q_TX q.2.1 q.2.2.1).1 = q_R q.2.1)) = true := by decide +kernel
set_option maxRecDepth 100000 in
theorem q_fldC_14 : (q_fldT 14).all (fun q => decide (tables_1[q.2.2.2.2]? = some (q_fldW 14 q)) && decide (q.2.1 < 13) && decide (q.2.2.1 < q_N q.2.1) && decide ((q_TX q.2.1 q.2.2.1).1 = q_R q.2.1)) = true := by decide +kernel
set_option maxRecDepth 100000 in
theorem q_fldC_15 : (q_fldT 15).all (fun q => decide (tables_1[q.2.2.2.2]? = some (q_fldW 15 q)) && decide (q.2.1 < 13) && decide (q.2.2.1 < q_N q.2.1) && decide ((q_TX q.2.1 q.2.2.1).1 = q_R q.2.1)) = true := by decide +kernel
theorem q_fldC : ∀ o, ∀ q ∈ q_fldT o, (decide (tables_1[q.2.2.2.2]? = some (q_fldW o q)) && decide (q.2.1 < 13) && decide (q.2.2.1 < q_N q.2.1) && decide ((q_TX q.2.1 q.2.2.1).1 = q_R q.2.1)) = true
  | 0 => List.all_eq_true.mp q_fldC_0
  | 1 => List.all_eq_true.mp q_fldC_1
  | 2 => List.all_eq_true.mp q_fldC_2
  | 3 => List.all_eq_true.mp q_fldC_3
  | 4 => List.all_eq_true.mp q_fldC_4
  | 5 => List.all_eq_true.mp q_fldC_5
  | 6 => List.all_eq_true.mp q_fldC_6
  | 7 => List.all_eq_true.mp q_fldC_7
  | 8 => List.all_eq_true.mp q_fldC_8
  | 9 => List.all_eq_true.mp q_fldC_9
  | 10 => List.all_eq_true.mp q_fldC_10
  | 11 => List.all_eq_true.mp q_fldC_11
  | 12 => List.all_eq_true.mp q_fldC_12
  | 13 => List.all_eq_true.mp q_fldC_13
  | 14 => List.all_eq_true.mp q_fldC_14
  | 15 => List.all_eq_true.mp q_fldC_15
  | n + 16 => fun q h => absurd h (by simp [q_fldT])
def q_fld (o i : Nat) : Option (Nat × Nat × Nat) := ((q_fldT o).find? (fun q => q.1 == i)).map (fun q => (q.2.1, q.2.2.1, q.2.2.2.1))
def q_cstT (o : Nat) : List (Nat × Nat × Nat) := match o with
  | 1 => [(28, 163608, 171), (104, 82800, 1162), (132, 246408, 1181), (216, 100000, 1189), (124, 163610, 1239)]
  | 2 => [(199, 100000, 1052)]
  | 3 => [(147, 100000, 859)]
  | 4 => [(62, 100000, 1093)]
  | 5 => [(68, 100000, 842)]
  | 7 => [(9, 246408, 37), (49, 100000, 616)]
  | 8 => [(36, 82808, 319)]
  | 9 => [(36, 82808, 213), (44, 163608, 215), (162, 40400, 1409), (167, 246408, 1411), (241, 100000, 1428), (200, 40000, 1441)]
  | 11 => [(82, 42408, 500), (270, 100000, 736), (288, 40000, 801), (348, 82808, 1156), (349, 123208, 1157), (353, 163608, 1245)]
  | 12 => [(9, 2706210, 1708), (18, 80000, 1709), (78, 48000, 1710), (136, 2706200, 1711), (230, 65536, 2007), (231, 1114111, 2008), (232, 55296, 2009), (233, 57343, 2010), (915, 2598000, 2172), (916, 2606000, 2173), (711, 982000, 2245), (296, 1000000000, 2286), (739, 1014000, 2323), (619, 802000, 2556), (620, 60000, 2557), (450, 2606200, 2570), (621, 40000, 2636), (451, 922000, 2773), (523, 952000, 2774), (455, 2666200, 2799)]
  | _ => []
set_option maxRecDepth 100000 in
theorem q_cstC_0 : (q_cstT 0).all (fun q => decide (tables_1[q.2.2]? = some (.constant (q_R 0) q.1 (Int32.ofNat q.2.1)))) = true := by decide +kernel
set_option maxRecDepth 100000 in
theorem q_cstC_1 : (q_cstT 1).all (fun q => decide (tables_1[q.2.2]? = some (.constant (q_R 1) q.1 (Int32.ofNat q.2.1)))) = true := by decide +kernel
set_option maxRecDepth 100000 in
theorem q_cstC_2 : (q_cstT 2).all (fun q => decide (tables_1[q.2.2]? = some (.constant (q_R 2) q.1 (Int32.ofNat q.2.1)))) = true := by decide +kernel
set_option maxRecDepth 100000 in
theorem q_cstC_3 : (q_cstT 3).all (fun q => decide (tables_1[q.2.2]? = some (.constant (q_R 3) q.1 (Int32.ofNat q.2.1)))) = true := by decide +kernel
set_option maxRecDepth 100000 in
theorem q_cstC_4 : (q_cstT 4).all (fun q => decide (tables_1[q.2.2]? = some (.constant (q_R 4) q.1 (Int32.ofNat q.2.1)))) = true := by decide +kernel
set_option maxRecDepth 100000 in
theorem q_cstC_5 : (q_cstT 5).all (fun q => decide (tables_1[q.2.2]? = some (.constant (q_R 5) q.1 (Int32.ofNat q.2.1)))) = true := by decide +kernel
set_option maxRecDepth 100000 in
theorem q_cstC_6 : (q_cstT 6).all (fun q => decide (tables_1[q.2.2]? = some (.constant (q_R 6) q.1 (Int32.ofNat q.2.1)))) = true := by decide +kernel
set_option maxRecDepth 100000 in
theorem q_cstC_7 : (q_cstT 7).all (fun q => decide (tables_1[q.2.2]? = some (.constant (q_R 7) q.1 (Int32.ofNat q.2.1)))) = true := by decide +kernel
set_option maxRecDepth 100000 in
theorem q_cstC_8 : (q_cstT 8).all (fun q => decide (tables_1[q.2.2]? = some (.constant (q_R 8) q.1 (Int32.ofNat q.2.1)))) = true := by decide +kernel
set_option maxRecDepth 100000 in
theorem q_cstC_9 : (q_cstT 9).all (fun q => decide (tables_1[q.2.2]? = some (.constant (q_R 9) q.1 (Int32.ofNat q.2.1)))) = true := by decide +kernel
set_option maxRecDepth 100000 in
theorem q_cstC_10 : (q_cstT 10).all (fun q => decide (tables_1[q.2.2]? = some (.constant (q_R 10) q.1 (Int32.ofNat q.2.1)))) = true := by decide +kernel
set_option maxRecDepth 100000 in
theorem q_cstC_11 : (q_cstT 11).all (fun q => decide (tables_1[q.2.2]? = some (.constant (q_R 11) q.1 (Int32.ofNat q.2.1)))) = true := by decide +kernel
set_option maxRecDepth 100000 in
theorem q_cstC_12 : (q_cstT 12).all (fun q => decide (tables_1[q.2.2]? = some (.constant (q_R 12) q.1 (Int32.ofNat q.2.1)))) = true := by decide +kernel
set_option maxRecDepth 100000 in
theorem q_cstC_13 : (q_cstT 13).all (fun q => decide (tables_1[q.2.2]? = some (.constant (q_R 13) q.1 (Int32.ofNat q.2.1)))) = true := by decide +kernel
set_option maxRecDepth 100000 in
theorem q_cstC_14 : (q_cstT 14).all (fun q => decide (tables_1[q.2.2]? = some (.constant (q_R 14) q.1 (Int32.ofNat q.2.1)))) = true := by decide +kernel
set_option maxRecDepth 100000 in
theorem q_cstC_15 : (q_cstT 15).all (fun q => decide (tables_1[q.2.2]? = some (.constant (q_R 15) q.1 (Int32.ofNat q.2.1)))) = true := by decide +kernel
theorem q_cstC : ∀ o, ∀ q ∈ q_cstT o, (decide (tables_1[q.2.2]? = some (.constant (q_R o) q.1 (Int32.ofNat q.2.1)))) = true
  | 0 => List.all_eq_true.mp q_cstC_0
  | 1 => List.all_eq_true.mp q_cstC_1
  | 2 => List.all_eq_true.mp q_cstC_2
  | 3 => List.all_eq_true.mp q_cstC_3
  | 4 => List.all_eq_true.mp q_cstC_4
  | 5 => List.all_eq_true.mp q_cstC_5
  | 6 => List.all_eq_true.mp q_cstC_6
  | 7 => List.all_eq_true.mp q_cstC_7
  | 8 => List.all_eq_true.mp q_cstC_8
  | 9 => List.all_eq_true.mp q_cstC_9
  | 10 => List.all_eq_true.mp q_cstC_10
  | 11 => List.all_eq_true.mp q_cstC_11
  | 12 => List.all_eq_true.mp q_cstC_12
  | 13 => List.all_eq_true.mp q_cstC_13
  | 14 => List.all_eq_true.mp q_cstC_14
  | 15 => List.all_eq_true.mp q_cstC_15
  | n + 16 => fun q h => absurd h (by simp [q_cstT])
def q_ldcw (o i : Nat) : Option Int32 := ((q_cstT o).find? (fun q => q.1 == i)).map (fun q => Int32.ofNat q.2.1)
def q_newT (o : Nat) : List (Nat × Nat × Nat) := match o with
  | 1 => [(15, 5, 168), (26, 4, 170)]
  | 2 => [(24, 5, 109)]
  | 3 => [(24, 5, 328), (34, 10, 330)]
  | 8 => [(34, 4, 318), (44, 3, 321)]
  | 9 => [(24, 5, 210), (34, 4, 212)]
  | 11 => [(9, 7, 31), (19, 4, 61), (28, 6, 85), (37, 2, 103), (46, 1, 162), (53, 9, 204), (60, 0, 281), (67, 5, 309), (77, 8, 311)]
  | 13 => [(7, 11, 23), (10, 12, 1702)]
  | _ => []
set_option maxRecDepth 100000 in
theorem q_newC_0 : (q_newT 0).all (fun q => decide (tables_1[q.2.2]? = some (.classLink (q_R 0) q.1 (q_R q.2.1))) && decide (q.2.1 < 13)) = true := by decide +kernel
set_option maxRecDepth 100000 in
theorem q_newC_1 : (q_newT 1).all (fun q => decide (tables_1[q.2.2]? = some (.classLink (q_R 1) q.1 (q_R q.2.1))) && decide (q.2.1 < 13)) = true := by decide +kernel
set_option maxRecDepth 100000 in
theorem q_newC_2 : (q_newT 2).all (fun q => decide (tables_1[q.2.2]? = some (.classLink (q_R 2) q.1 (q_R q.2.1))) && decide (q.2.1 < 13)) = true := by decide +kernel
set_option maxRecDepth 100000 in
theorem q_newC_3 : (q_newT 3).all (fun q => decide (tables_1[q.2.2]? = some (.classLink (q_R 3) q.1 (q_R q.2.1))) && decide (q.2.1 < 13)) = true := by decide +kernel
set_option maxRecDepth 100000 in
theorem q_newC_4 : (q_newT 4).all (fun q => decide (tables_1[q.2.2]? = some (.classLink (q_R 4) q.1 (q_R q.2.1))) && decide (q.2.1 < 13)) = true := by decide +kernel
set_option maxRecDepth 100000 in
theorem q_newC_5 : (q_newT 5).all (fun q => decide (tables_1[q.2.2]? = some (.classLink (q_R 5) q.1 (q_R q.2.1))) && decide (q.2.1 < 13)) = true := by decide +kernel
set_option maxRecDepth 100000 in
theorem q_newC_6 : (q_newT 6).all (fun q => decide (tables_1[q.2.2]? = some (.classLink (q_R 6) q.1 (q_R q.2.1))) && decide (q.2.1 < 13)) = true := by decide +kernel
set_option maxRecDepth 100000 in
theorem q_newC_7 : (q_newT 7).all (fun q => decide (tables_1[q.2.2]? = some (.classLink (q_R 7) q.1 (q_R q.2.1))) && decide (q.2.1 < 13)) = true := by decide +kernel
set_option maxRecDepth 100000 in
theorem q_newC_8 : (q_newT 8).all (fun q => decide (tables_1[q.2.2]? = some (.classLink (q_R 8) q.1 (q_R q.2.1))) && decide (q.2.1 < 13)) = true := by decide +kernel
set_option maxRecDepth 100000 in
theorem q_newC_9 : (q_newT 9).all (fun q => decide (tables_1[q.2.2]? = some (.classLink (q_R 9) q.1 (q_R q.2.1))) && decide (q.2.1 < 13)) = true := by decide +kernel
set_option maxRecDepth 100000 in
theorem q_newC_10 : (q_newT 10).all (fun q => decide (tables_1[q.2.2]? = some (.classLink (q_R 10) q.1 (q_R q.2.1))) && decide (q.2.1 < 13)) = true := by decide +kernel
set_option maxRecDepth 100000 in
theorem q_newC_11 : (q_newT 11).all (fun q => decide (tables_1[q.2.2]? = some (.classLink (q_R 11) q.1 (q_R q.2.1))) && decide (q.2.1 < 13)) = true := by decide +kernel
set_option maxRecDepth 100000 in
theorem q_newC_12 : (q_newT 12).all (fun q => decide (tables_1[q.2.2]? = some (.classLink (q_R 12) q.1 (q_R q.2.1))) && decide (q.2.1 < 13)) = true := by decide +kernel
set_option maxRecDepth 100000 in
theorem q_newC_13 : (q_newT 13).all (fun q => decide (tables_1[q.2.2]? = some (.classLink (q_R 13) q.1 (q_R q.2.1))) && decide (q.2.1 < 13)) = true := by decide +kernel
set_option maxRecDepth 100000 in
theorem q_newC_14 : (q_newT 14).all (fun q => decide (tables_1[q.2.2]? = some (.classLink (q_R 14) q.1 (q_R q.2.1))) && decide (q.2.1 < 13)) = true := by decide +kernel
set_option maxRecDepth 100000 in
theorem q_newC_15 : (q_newT 15).all (fun q => decide (tables_1[q.2.2]? = some (.classLink (q_R 15) q.1 (q_R q.2.1))) && decide (q.2.1 < 13)) = true := by decide +kernel
theorem q_newC : ∀ o, ∀ q ∈ q_newT o, (decide (tables_1[q.2.2]? = some (.classLink (q_R o) q.1 (q_R q.2.1))) && decide (q.2.1 < 13)) = true
  | 0 => List.all_eq_true.mp q_newC_0
  | 1 => List.all_eq_true.mp q_newC_1
  | 2 => List.all_eq_true.mp q_newC_2
  | 3 => List.all_eq_true.mp q_newC_3
  | 4 => List.all_eq_true.mp q_newC_4
  | 5 => List.all_eq_true.mp q_newC_5
  | 6 => List.all_eq_true.mp q_newC_6
  | 7 => List.all_eq_true.mp q_newC_7
  | 8 => List.all_eq_true.mp q_newC_8
  | 9 => List.all_eq_true.mp q_newC_9
  | 10 => List.all_eq_true.mp q_newC_10
  | 11 => List.all_eq_true.mp q_newC_11
  | 12 => List.all_eq_true.mp q_newC_12
  | 13 => List.all_eq_true.mp q_newC_13
  | 14 => List.all_eq_true.mp q_newC_14
  | 15 => List.all_eq_true.mp q_newC_15
  | n + 16 => fun q h => absurd h (by simp [q_newT])
def q_new (o i : Nat) : Option (Nat × Nat) := ((q_newT o).find? (fun q => q.1 == i)).map (fun q => (q.2.1, q_N q.2.1))
def q_anew (o i : Nat) : Option Nat := ((q_newT o).find? (fun q => q.1 == i)).bind (fun q => if q.2.1 = 3 then some 3 else if q.2.1 = 8 then some 4 else none)
def q_matT (o : Nat) : List (Nat × Nat × Nat) := match o with
  | 0 => [(172, 1, 1623)]
  | 1 => [(94, 1, 1153)]
  | 3 => [(92, 1, 850), (98, 0, 1319)]
  | 4 => [(22, 0, 575), (28, 1, 578)]
  | 7 => [(95, 1, 630), (104, 0, 1244)]
  | 8 => [(63, 1, 866)]
  | 9 => [(78, 1, 1348), (335, 0, 1495)]
  | 10 => [(107, 1, 883)]
  | _ => []
def q_matN (k : Nat) : MethodName := if k = 0 then Lib.Math.max.name else Lib.Math.min.name
set_option maxRecDepth 100000 in
theorem q_matC_0 : (q_matT 0).all (fun q => decide (tables_1[q.2.2]? = some (.methodLink (q_R 0) q.1 (q_matN q.2.1))) && decide (q.2.1 < 2)) = true := by decide +kernel
set_option maxRecDepth 100000 in
theorem q_matC_1 : (q_matT 1).all (fun q => decide (tables_1[q.2.2]? = some (.methodLink (q_R 1) q.1 (q_matN q.2.1))) && decide (q.2.1 < 2)) = true := by decide +kernel
set_option maxRecDepth 100000 in
theorem q_matC_2 : (q_matT 2).all (fun q => decide (tables_1[q.2.2]? = some (.methodLink (q_R 2) q.1 (q_matN q.2.1))) && decide (q.2.1 < 2)) = true := by decide +kernel
set_option maxRecDepth 100000 in
theorem q_matC_3 : (q_matT 3).all (fun q => decide (tables_1[q.2.2]? = some (.methodLink (q_R 3) q.1 (q_matN q.2.1))) && decide (q.2.1 < 2)) = true := by decide +kernel
set_option maxRecDepth 100000 in
theorem q_matC_4 : (q_matT 4).all (fun q => decide (tables_1[q.2.2]? = some (.methodLink (q_R 4) q.1 (q_matN q.2.1))) && decide (q.2.1 < 2)) = true := by decide +kernel
set_option maxRecDepth 100000 in
theorem q_matC_5 : (q_matT 5).all (fun q => decide (tables_1[q.2.2]? = some (.methodLink (q_R 5) q.1 (q_matN q.2.1))) && decide (q.2.1 < 2)) = true := by decide +kernel
set_option maxRecDepth 100000 in
theorem q_matC_6 : (q_matT 6).all (fun q => decide (tables_1[q.2.2]? = some (.methodLink (q_R 6) q.1 (q_matN q.2.1))) && decide (q.2.1 < 2)) = true := by decide +kernel
set_option maxRecDepth 100000 in
theorem q_matC_7 : (q_matT 7).all (fun q => decide (tables_1[q.2.2]? = some (.methodLink (q_R 7) q.1 (q_matN q.2.1))) && decide (q.2.1 < 2)) = true := by decide +kernel
set_option maxRecDepth 100000 in
theorem q_matC_8 : (q_matT 8).all (fun q => decide (tables_1[q.2.2]? = some (.methodLink (q_R 8) q.1 (q_matN q.2.1))) && decide (q.2.1 < 2)) = true := by decide +kernel
set_option maxRecDepth 100000 in
theorem q_matC_9 : (q_matT 9).all (fun q => decide (tables_1[q.2.2]? = some (.methodLink (q_R 9) q.1 (q_matN q.2.1))) && decide (q.2.1 < 2)) = true := by decide +kernel
set_option maxRecDepth 100000 in
theorem q_matC_10 : (q_matT 10).all (fun q => decide (tables_1[q.2.2]? = some (.methodLink (q_R 10) q.1 (q_matN q.2.1))) && decide (q.2.1 < 2)) = true := by decide +kernel
set_option maxRecDepth 100000 in
theorem q_matC_11 : (q_matT 11).all (fun q => decide (tables_1[q.2.2]? = some (.methodLink (q_R 11) q.1 (q_matN q.2.1))) && decide (q.2.1 < 2)) = true := by decide +kernel
set_option maxRecDepth 100000 in
theorem q_matC_12 : (q_matT 12).all (fun q => decide (tables_1[q.2.2]? = some (.methodLink (q_R 12) q.1 (q_matN q.2.1))) && decide (q.2.1 < 2)) = true := by decide +kernel
set_option maxRecDepth 100000 in
theorem q_matC_13 : (q_matT 13).all (fun q => decide (tables_1[q.2.2]? = some (.methodLink (q_R 13) q.1 (q_matN q.2.1))) && decide (q.2.1 < 2)) = true := by decide +kernel
set_option maxRecDepth 100000 in
theorem q_matC_14 : (q_matT 14).all (fun q => decide (tables_1[q.2.2]? = some (.methodLink (q_R 14) q.1 (q_matN q.2.1))) && decide (q.2.1 < 2)) = true := by decide +kernel
set_option maxRecDepth 100000 in
theorem q_matC_15 : (q_matT 15).all (fun q => decide (tables_1[q.2.2]? = some (.methodLink (q_R 15) q.1 (q_matN q.2.1))) && decide (q.2.1 < 2)) = true := by decide +kernel
theorem q_matC : ∀ o, ∀ q ∈ q_matT o, (decide (tables_1[q.2.2]? = some (.methodLink (q_R o) q.1 (q_matN q.2.1))) && decide (q.2.1 < 2)) = true
  | 0 => List.all_eq_true.mp q_matC_0
  | 1 => List.all_eq_true.mp q_matC_1
  | 2 => List.all_eq_true.mp q_matC_2
  | 3 => List.all_eq_true.mp q_matC_3
  | 4 => List.all_eq_true.mp q_matC_4
  | 5 => List.all_eq_true.mp q_matC_5
  | 6 => List.all_eq_true.mp q_matC_6
  | 7 => List.all_eq_true.mp q_matC_7
  | 8 => List.all_eq_true.mp q_matC_8
  | 9 => List.all_eq_true.mp q_matC_9
  | 10 => List.all_eq_true.mp q_matC_10
  | 11 => List.all_eq_true.mp q_matC_11
  | 12 => List.all_eq_true.mp q_matC_12
  | 13 => List.all_eq_true.mp q_matC_13
  | 14 => List.all_eq_true.mp q_matC_14
  | 15 => List.all_eq_true.mp q_matC_15
  | n + 16 => fun q h => absurd h (by simp [q_matT])
def q_math (o i : Nat) : Option Nat := ((q_matT o).find? (fun q => q.1 == i)).map (fun q => q.2.1)
def q_oiT (o : Nat) : List (Nat × Nat) := match o with
  | 0 => [(3, 286)]
  | 1 => [(3, 167)]
  | 2 => [(3, 108)]
  | 3 => [(3, 327)]
  | 4 => [(3, 66)]
  | 5 => [(3, 114)]
  | 6 => [(3, 90)]
  | 7 => [(3, 36)]
  | 8 => [(3, 317)]
  | 9 => [(3, 209)]
  | 10 => [(5, 335)]
  | 11 => [(3, 28)]
  | 12 => [(1, 1707)]
  | _ => []
set_option maxRecDepth 100000 in
theorem q_oiC_0 : (q_oiT 0).all (fun q => decide (tables_1[q.2]? = some (.methodLink (q_R 0) q.1 Lib.objectInit))) = true := by decide +kernel
set_option maxRecDepth 100000 in
theorem q_oiC_1 : (q_oiT 1).all (fun q => decide (tables_1[q.2]? = some (.methodLink (q_R 1) q.1 Lib.objectInit))) = true := by decide +kernel
set_option maxRecDepth 100000 in
theorem q_oiC_2 : (q_oiT 2).all (fun q => decide (tables_1[q.2]? = some (.methodLink (q_R 2) q.1 Lib.objectInit))) = true := by decide +kernel
set_option maxRecDepth 100000 in
theorem q_oiC_3 : (q_oiT 3).all (fun q => decide (tables_1[q.2]? = some (.methodLink (q_R 3) q.1 Lib.objectInit))) = true := by decide +kernel
set_option maxRecDepth 100000 in
theorem q_oiC_4 : (q_oiT 4).all (fun q => decide (tables_1[q.2]? = some (.methodLink (q_R 4) q.1 Lib.objectInit))) = true := by decide +kernel
set_option maxRecDepth 100000 in
theorem q_oiC_5 : (q_oiT 5).all (fun q => decide (tables_1[q.2]? = some (.methodLink (q_R 5) q.1 Lib.objectInit))) = true := by decide +kernel
set_option maxRecDepth 100000 in
theorem q_oiC_6 : (q_oiT 6).all (fun q => decide (tables_1[q.2]? = some (.methodLink (q_R 6) q.1 Lib.objectInit))) = true := by decide +kernel
set_option maxRecDepth 100000 in
theorem q_oiC_7 : (q_oiT 7).all (fun q => decide (tables_1[q.2]? = some (.methodLink (q_R 7) q.1 Lib.objectInit))) = true := by decide +kernel
set_option maxRecDepth 100000 in
theorem q_oiC_8 : (q_oiT 8).all (fun q => decide (tables_1[q.2]? = some (.methodLink (q_R 8) q.1 Lib.objectInit))) = true := by decide +kernel
set_option maxRecDepth 100000 in
theorem q_oiC_9 : (q_oiT 9).all (fun q => decide (tables_1[q.2]? = some (.methodLink (q_R 9) q.1 Lib.objectInit))) = true := by decide +kernel
set_option maxRecDepth 100000 in
theorem q_oiC_10 : (q_oiT 10).all (fun q => decide (tables_1[q.2]? = some (.methodLink (q_R 10) q.1 Lib.objectInit))) = true := by decide +kernel
set_option maxRecDepth 100000 in
theorem q_oiC_11 : (q_oiT 11).all (fun q => decide (tables_1[q.2]? = some (.methodLink (q_R 11) q.1 Lib.objectInit))) = true := by decide +kernel
set_option maxRecDepth 100000 in
theorem q_oiC_12 : (q_oiT 12).all (fun q => decide (tables_1[q.2]? = some (.methodLink (q_R 12) q.1 Lib.objectInit))) = true := by decide +kernel
set_option maxRecDepth 100000 in
theorem q_oiC_13 : (q_oiT 13).all (fun q => decide (tables_1[q.2]? = some (.methodLink (q_R 13) q.1 Lib.objectInit))) = true := by decide +kernel
set_option maxRecDepth 100000 in
theorem q_oiC_14 : (q_oiT 14).all (fun q => decide (tables_1[q.2]? = some (.methodLink (q_R 14) q.1 Lib.objectInit))) = true := by decide +kernel
set_option maxRecDepth 100000 in
theorem q_oiC_15 : (q_oiT 15).all (fun q => decide (tables_1[q.2]? = some (.methodLink (q_R 15) q.1 Lib.objectInit))) = true := by decide +kernel
theorem q_oiC : ∀ o, ∀ q ∈ q_oiT o, (decide (tables_1[q.2]? = some (.methodLink (q_R o) q.1 Lib.objectInit))) = true
  | 0 => List.all_eq_true.mp q_oiC_0
  | 1 => List.all_eq_true.mp q_oiC_1
  | 2 => List.all_eq_true.mp q_oiC_2
  | 3 => List.all_eq_true.mp q_oiC_3
  | 4 => List.all_eq_true.mp q_oiC_4
  | 5 => List.all_eq_true.mp q_oiC_5
  | 6 => List.all_eq_true.mp q_oiC_6
  | 7 => List.all_eq_true.mp q_oiC_7
  | 8 => List.all_eq_true.mp q_oiC_8
  | 9 => List.all_eq_true.mp q_oiC_9
  | 10 => List.all_eq_true.mp q_oiC_10
  | 11 => List.all_eq_true.mp q_oiC_11
  | 12 => List.all_eq_true.mp q_oiC_12
  | 13 => List.all_eq_true.mp q_oiC_13
  | 14 => List.all_eq_true.mp q_oiC_14
  | 15 => List.all_eq_true.mp q_oiC_15
  | n + 16 => fun q h => absurd h (by simp [q_oiT])
def q_oini (o i : Nat) : Bool := ((q_oiT o).find? (fun q => q.1 == i)).isSome
theorem q_mat1 : ∀ k, k < 2 → Cond.static (q_matN k) ∈ lw_tbl ∧ Cond.initialized "java/lang/Math" ∈ lw_tbl ∧ ((k = 0 → Cond.code Lib.Math.max.name Lib.Math.max.code 2 (some .int) ∈ lw_tbl) ∧ (k = 1 → Cond.code Lib.Math.min.name Lib.Math.min.code 2 (some .int) ∈ lw_tbl))
  | 0, _ => ⟨q_lwt (i := 576) (by decide +kernel), q_lwt (i := 14) (by decide +kernel), fun _ => q_lwt (i := 577) (by decide +kernel), fun h => absurd h (by decide)⟩
  | 1, _ => ⟨q_lwt (i := 579) (by decide +kernel), q_lwt (i := 14) (by decide +kernel), fun h => absurd h (by decide), fun _ => q_lwt (i := 580) (by decide +kernel)⟩
  | n + 2, h => absurd h (by omega)
theorem q_oi1 : Cond.instanceMethod Lib.objectInit ∈ lw_tbl ∧ Cond.code Lib.objectInit ⟨#[0xb1]⟩ 1 none ∈ lw_tbl := ⟨q_lwt (i := 29) (by decide +kernel), q_lwt (i := 30) (by decide +kernel)⟩
theorem q_acB : Cond.arrayClass .byte ∈ lw_tbl := q_lwt (i := 59) (by decide +kernel)
theorem q_acI : Cond.arrayClass .int ∈ lw_tbl := q_lwt (i := 60) (by decide +kernel)
theorem q_acZ : Cond.arrayClass .boolean ∈ lw_tbl := q_lwt (i := 400) (by decide +kernel)
def q_strs : List (String × Nat × String × Nat) := [("DocumentHouse", 181, "fault", 0), ("DocumentHouse", 186, "place", 2), ("DocumentHouseModel", 1025, "fault", 4), ("DocumentHouseModel", 1026, "place", 6)]
def q_strT (o : Nat) : List (Nat × Nat) := match o with
  | 11 => [(181, 0), (186, 1)]
  | 12 => [(1025, 2), (1026, 3)]
  | _ => []
def q_strX (j : Nat) : String := match j with
  | 0 => "fault"
  | 1 => "place"
  | 2 => "fault"
  | 3 => "place"
  | _ => ""
set_option maxRecDepth 100000 in
theorem q_strC_0 : (q_strT 0).all (fun q => decide ((q_R 0, q.1, q_strX q.2, 2 * q.2) ∈ q_strs)) = true := by decide +kernel
set_option maxRecDepth 100000 in
theorem q_strC_1 : (q_strT 1).all (fun q => decide ((q_R 1, q.1, q_strX q.2, 2 * q.2) ∈ q_strs)) = true := by decide +kernel
set_option maxRecDepth 100000 in
theorem q_strC_2 : (q_strT 2).all (fun q => decide ((q_R 2, q.1, q_strX q.2, 2 * q.2) ∈ q_strs)) = true := by decide +kernel
set_option maxRecDepth 100000 in
theorem q_strC_3 : (q_strT 3).all (fun q => decide ((q_R 3, q.1, q_strX q.2, 2 * q.2) ∈ q_strs)) = true := by decide +kernel
set_option maxRecDepth 100000 in
theorem q_strC_4 : (q_strT 4).all (fun q => decide ((q_R 4, q.1, q_strX q.2, 2 * q.2) ∈ q_strs)) = true := by decide +kernel
set_option maxRecDepth 100000 in
theorem q_strC_5 : (q_strT 5).all (fun q => decide ((q_R 5, q.1, q_strX q.2, 2 * q.2) ∈ q_strs)) = true := by decide +kernel
set_option maxRecDepth 100000 in
theorem q_strC_6 : (q_strT 6).all (fun q => decide ((q_R 6, q.1, q_strX q.2, 2 * q.2) ∈ q_strs)) = true := by decide +kernel
set_option maxRecDepth 100000 in
theorem q_strC_7 : (q_strT 7).all (fun q => decide ((q_R 7, q.1, q_strX q.2, 2 * q.2) ∈ q_strs)) = true := by decide +kernel
set_option maxRecDepth 100000 in
theorem q_strC_8 : (q_strT 8).all (fun q => decide ((q_R 8, q.1, q_strX q.2, 2 * q.2) ∈ q_strs)) = true := by decide +kernel
set_option maxRecDepth 100000 in
theorem q_strC_9 : (q_strT 9).all (fun q => decide ((q_R 9, q.1, q_strX q.2, 2 * q.2) ∈ q_strs)) = true := by decide +kernel
set_option maxRecDepth 100000 in
theorem q_strC_10 : (q_strT 10).all (fun q => decide ((q_R 10, q.1, q_strX q.2, 2 * q.2) ∈ q_strs)) = true := by decide +kernel
set_option maxRecDepth 100000 in
theorem q_strC_11 : (q_strT 11).all (fun q => decide ((q_R 11, q.1, q_strX q.2, 2 * q.2) ∈ q_strs)) = true := by decide +kernel
set_option maxRecDepth 100000 in
theorem q_strC_12 : (q_strT 12).all (fun q => decide ((q_R 12, q.1, q_strX q.2, 2 * q.2) ∈ q_strs)) = true := by decide +kernel
set_option maxRecDepth 100000 in
theorem q_strC_13 : (q_strT 13).all (fun q => decide ((q_R 13, q.1, q_strX q.2, 2 * q.2) ∈ q_strs)) = true := by decide +kernel
set_option maxRecDepth 100000 in
theorem q_strC_14 : (q_strT 14).all (fun q => decide ((q_R 14, q.1, q_strX q.2, 2 * q.2) ∈ q_strs)) = true := by decide +kernel
set_option maxRecDepth 100000 in
theorem q_strC_15 : (q_strT 15).all (fun q => decide ((q_R 15, q.1, q_strX q.2, 2 * q.2) ∈ q_strs)) = true := by decide +kernel
theorem q_strC : ∀ o, ∀ q ∈ q_strT o, (decide ((q_R o, q.1, q_strX q.2, 2 * q.2) ∈ q_strs)) = true
  | 0 => List.all_eq_true.mp q_strC_0
  | 1 => List.all_eq_true.mp q_strC_1
  | 2 => List.all_eq_true.mp q_strC_2
  | 3 => List.all_eq_true.mp q_strC_3
  | 4 => List.all_eq_true.mp q_strC_4
  | 5 => List.all_eq_true.mp q_strC_5
  | 6 => List.all_eq_true.mp q_strC_6
  | 7 => List.all_eq_true.mp q_strC_7
  | 8 => List.all_eq_true.mp q_strC_8
  | 9 => List.all_eq_true.mp q_strC_9
  | 10 => List.all_eq_true.mp q_strC_10
  | 11 => List.all_eq_true.mp q_strC_11
  | 12 => List.all_eq_true.mp q_strC_12
  | 13 => List.all_eq_true.mp q_strC_13
  | 14 => List.all_eq_true.mp q_strC_14
  | 15 => List.all_eq_true.mp q_strC_15
  | n + 16 => fun q h => absurd h (by simp [q_strT])
def q_nS : Nat := 4
/-- the signs of the texts -/
def q_sb (j : Nat) : List Int32 := (q_strX j).toList.map (fun c => Int32.ofNat c.toNat)
end
section
/-! THE PURE MACHINE: heaps as lists of cells, refs 2i = cell i of the pool (at b0 + i), 2j+1 = the text constant j (at ad j) -/
abbrev q_L : Type := List (Nat × Value)
/-- a cell: a row (its type's number, its length, what was written, the latest first: numbers or refs), or an object (its class, its fields) -/
abbrev q_E : Type := (Nat × Nat × (List (Nat × Int32) ⊕ List (Nat × Nat))) ⊕ (Nat × List Value)
abbrev q_H : Type := List q_E
def q_lk (L : List (Nat × Int32)) (j : Nat) : Int32 := match L.find? (fun q => q.1 == j) with
  | some q => q.2
  | none => 0
def q_lr (L : List (Nat × Nat)) (j : Nat) : Option Nat := (L.find? (fun q => q.1 == j)).map (fun q => q.2)
theorem q_lk_up (L : List (Nat × Int32)) (i : Nat) (x : Int32) : q_lk ((i, x) :: L) = upd (q_lk L) i x := by
  funext j
  unfold q_lk upd
  rw [List.find?_cons]
  by_cases h : j = i
  · subst h
    simp
  · have h2 : (i == j) = false := by simpa using fun e => h e.symm
    simp only [h2, if_neg h]
def q_upz (L : List (Nat × Int32)) (i : Nat) (x : Int32) : List (Nat × Int32) := bif q_lk L i == x then L else (i, x) :: L
theorem q_lk_upz (L : List (Nat × Int32)) (i : Nat) (x : Int32) : q_lk (q_upz L i x) = upd (q_lk L) i x := by
  unfold q_upz
  by_cases h : q_lk L i = x
  · rw [show (q_lk L i == x) = true by simpa using h]
    funext j
    show q_lk L j = upd (q_lk L) i x j
    unfold upd
    by_cases hj : j = i
    · rw [if_pos hj, hj, h]
    · rw [if_neg hj]
  · rw [show (q_lk L i == x) = false by simpa using h]
    exact q_lk_up L i x
theorem q_lr_up (L : List (Nat × Nat)) (i v j : Nat) : q_lr ((i, v) :: L) j = if j = i then some v else q_lr L j := by
  unfold q_lr
  rw [List.find?_cons]
  by_cases h : j = i
  · subst h
    simp
  · have h2 : (i == j) = false := by simpa using fun e => h e.symm
    simp only [h2, if_neg h]
theorem q_lr_range (c : Nat) : ∀ N j : Nat, q_lr ((List.range N).map (fun j => (j, 2 * (c + j)))) j = if j < N then some (2 * (c + j)) else none := by
  intro N
  induction N with
  | zero => intro j; rfl
  | succ N ih =>
    intro j
    have ih2 := ih j
    unfold q_lr at ih2 ⊢
    rw [List.range_succ, List.map_append, List.find?_append]
    by_cases h : j < N
    · rw [if_pos h] at ih2
      rw [if_pos (by omega)]
      cases hf : ((List.range N).map (fun j => (j, 2 * (c + j)))).find? (fun q => q.1 == j) with
      | none => rw [hf] at ih2; cases ih2
      | some z =>
        rw [hf] at ih2
        exact ih2
    · rw [if_neg h] at ih2
      cases hf : ((List.range N).map (fun j => (j, 2 * (c + j)))).find? (fun q => q.1 == j) with
      | some z => rw [hf] at ih2; cases ih2
      | none =>
        by_cases h2 : j = N
        · subst h2
          rw [if_pos (by omega)]
          simp
        · rw [if_neg (by omega)]
          have h3 : (N == j) = false := by simpa using fun e => h2 e.symm
          simp [h3]
def q_rho (b0 : Nat) (ad : Nat → Nat) (r : Nat) : Nat := if r % 2 = 0 then b0 + r / 2 else ad (r / 2)
theorem q_rho0 (b0 : Nat) (ad : Nat → Nat) (i : Nat) : q_rho b0 ad (2 * i) = b0 + i := by
  unfold q_rho
  rw [if_pos (by omega)]
  omega
theorem q_rho1 (b0 : Nat) (ad : Nat → Nat) (j : Nat) : q_rho b0 ad (2 * j + 1) = ad j := by
  unfold q_rho
  rw [if_neg (by omega)]
  congr 1
  omega
def q_v (F : Nat → Nat) (v : Value) : Value := match v with
  | .ref r => .ref (F r)
  | w => w
theorem q_v_cat {F : Nat → Nat} {v : Value} {n : Nat} (h : v.category = n) : (q_v F v).category = n := by
  rw [← h]
  cases v <;> rfl
theorem q_v_rf {F : Nat → Nat} (x : Option Nat) : q_v F (va_rf x) = va_rf (x.map F) := by cases x <;> rfl
def q_c (F : Nat → Nat) (cy : Nat → ClassId) (e : q_E) : va_E := match e with
  | .inl (t, n, .inl L) => .inl (cy t, n, .inl (q_lk L))
  | .inl (t, n, .inr L) => .inl (cy t, n, .inr (.inr (.inr (.inr (fun j => (q_lr L j).map F)))))
  | .inr (ci, fs) => .inr (ci, fs.map (q_v F))
def q_ml (F : Nat → Nat) (lv : q_L) : q_L := lv.map (fun q => (q.1, q_v F q.2))
/-- the pool as the kit's list of cells, from address a on -/
def q_ws (G : q_E → va_E) : Nat → q_H → va_W
  | _, [] => []
  | a, e :: l => (a, G e) :: q_ws G (a + 1) l
theorem q_ws_get {G : q_E → va_E} : ∀ (l : q_H) (a i : Nat), (q_ws G a l)[i]? = (l[i]?).map (fun e => (a + i, G e)) := by
  intro l
  induction l with
  | nil => intro a i; simp [q_ws]
  | cons e l ih =>
    intro a i
    cases i with
    | zero => simp [q_ws]
    | succ i =>
      simp only [q_ws, List.getElem?_cons_succ, ih]
      congr 1
      funext e
      congr 1
      omega
theorem q_ws_len {G : q_E → va_E} : ∀ (l : q_H) (a : Nat), (q_ws G a l).length = l.length := by
  intro l
  induction l with
  | nil => intro a; rfl
  | cons e l ih => intro a; simp [q_ws, ih]
theorem q_ws_set {G : q_E → va_E} : ∀ (l : q_H) (a i : Nat) (e : q_E), (q_ws G a l).set i (a + i, G e) = q_ws G a (l.set i e) := by
  intro l
  induction l with
  | nil => intro a i e; rfl
  | cons x l ih =>
    intro a i e
    cases i with
    | zero => rfl
    | succ i =>
      simp only [q_ws, List.set_cons_succ]
      congr 1
      rw [← ih (a + 1) i e]
      congr 2
      omega
theorem q_ws_apps {G : q_E → va_E} : ∀ (l : q_H) (a : Nat) (l2 : q_H), q_ws G a (l ++ l2) = q_ws G a l ++ q_ws G (a + l.length) l2 := by
  intro l
  induction l with
  | nil => intro a l2; rfl
  | cons x l ih =>
    intro a l2
    simp only [List.cons_append, q_ws, ih, List.length_cons]
    rw [show a + 1 + l.length = a + (l.length + 1) by omega]
theorem q_ws_app {G : q_E → va_E} : ∀ (l : q_H) (a : Nat) (e : q_E), q_ws G a (l ++ [e]) = q_ws G a l ++ [(a + l.length, G e)] := by
  intro l
  induction l with
  | nil => intro a e; rfl
  | cons x l ih =>
    intro a e
    simp only [List.cons_append, q_ws, ih, List.length_cons]
    rw [show a + 1 + l.length = a + (l.length + 1) by omega]
def q_W (D : va_G) (b0 : Nat) (G : q_E → va_E) (E : q_H) (H : Heap) : Prop := H.size = b0 + E.length ∧ va_P D vwCl (q_ws G b0 E) H
theorem q_ws_D {G : q_E → va_E} (b0 : Nat) (E : q_H) : va_D (fun q => b0 ≤ q) (q_ws G b0 E) := by
  refine ⟨fun i j x y hi hj hxy => ?_, fun k x hk => ?_⟩
  · rw [q_ws_get] at hi hj
    cases h1 : E[i]? with
    | none => rw [h1] at hi; cases hi
    | some e1 =>
      cases h2 : E[j]? with
      | none => rw [h2] at hj; cases hj
      | some e2 =>
        rw [h1] at hi
        rw [h2] at hj
        cases hi
        cases hj
        have h3 : b0 + i = b0 + j := hxy
        omega
  · rw [q_ws_get] at hk
    cases h1 : E[k]? with
    | none => rw [h1] at hk; cases hk
    | some e1 =>
      rw [h1] at hk
      cases hk
      exact Nat.le_add_right _ _
theorem q_bind_s {α β : Type} {x : Option α} {f : α → Option β} {b : β} (h : x.bind f = some b) : ∃ a, x = some a ∧ f a = some b := by
  cases x with
  | none => cases h
  | some a => exact ⟨a, rfl, h⟩
/-- a list, laid out before it is used -/
def q_rv {α β : Type} : List α → List α → (List α → β) → β
  | [], acc, k => k acc
  | a :: l, acc, k => q_rv l (a :: acc) k
theorem q_rv_eq {α β : Type} : ∀ (l acc : List α) (k : List α → β), q_rv l acc k = k (l.reverse ++ acc) := by
  intro l
  induction l with
  | nil => intro acc k; rfl
  | cons a l ih =>
    intro acc k
    show q_rv l (a :: acc) k = _
    rw [ih, List.reverse_cons, List.append_assoc]
    rfl
def q_fc {α β : Type} (l : List α) (k : List α → β) : β := q_rv l [] (fun r => q_rv r [] k)
theorem q_fc_eq {α β : Type} (l : List α) (k : List α → β) : q_fc l k = k l := by
  unfold q_fc
  rw [q_rv_eq, q_rv_eq, List.append_nil, List.append_nil, List.reverse_reverse]
/-- a number, counted out before it is used -/
def q_nf {β : Type} (n : Nat) (k : Nat → β) : β := match n with
  | 0 => k 0
  | m + 1 => k (m + 1)
theorem q_nf_eq {β : Type} (n : Nat) (k : Nat → β) : q_nf n k = k n := by cases n <;> rfl
def q_if {α : Type} (b : Bool) (x : Option α) : Option α := bif b then x else none
theorem q_if_s {α : Type} {b : Bool} {x : Option α} {a : α} (h : q_if b x = some a) : b = true ∧ x = some a := by
  cases b with
  | true => exact ⟨rfl, h⟩
  | false => cases h
def q_p1 {α : Type} (st : List Value) (k : Int32 → List Value → Option α) : Option α := match st with
  | .int x :: r => k x r
  | _ => none
theorem q_p1_s {α : Type} {st : List Value} {k : Int32 → List Value → Option α} {a : α} (h : q_p1 st k = some a) : ∃ x r, st = .int x :: r ∧ k x r = some a := by
  unfold q_p1 at h
  split at h
  · exact ⟨_, _, rfl, h⟩
  · cases h
def q_p2 {α : Type} (st : List Value) (k : Int32 → Int32 → List Value → Option α) : Option α := match st with
  | .int y :: .int x :: r => k x y r
  | _ => none
theorem q_p2_s {α : Type} {st : List Value} {k : Int32 → Int32 → List Value → Option α} {a : α} (h : q_p2 st k = some a) : ∃ x y r, st = .int y :: .int x :: r ∧ k x y r = some a := by
  unfold q_p2 at h
  split at h
  · exact ⟨_, _, _, rfl, h⟩
  · cases h
def q_pr {α : Type} (st : List Value) (k : Nat → List Value → Option α) : Option α := match st with
  | .ref x :: r => k x r
  | _ => none
theorem q_pr_s {α : Type} {st : List Value} {k : Nat → List Value → Option α} {a : α} (h : q_pr st k = some a) : ∃ x r, st = .ref x :: r ∧ k x r = some a := by
  unfold q_pr at h
  split at h
  · exact ⟨_, _, rfl, h⟩
  · cases h
def q_pa {α : Type} (st : List Value) (k : Value → List Value → Option α) : Option α := match st with
  | .ref x :: r => k (.ref x) r
  | .null :: r => k .null r
  | _ => none
theorem q_pa_s {α : Type} {st : List Value} {k : Value → List Value → Option α} {a : α} (h : q_pa st k = some a) : ∃ v r, st = v :: r ∧ (v = .null ∨ ∃ x, v = .ref x) ∧ k v r = some a := by
  unfold q_pa at h
  split at h
  · exact ⟨_, _, rfl, Or.inr ⟨_, rfl⟩, h⟩
  · exact ⟨_, _, rfl, Or.inl rfl, h⟩
  · cases h
def q_t1 {α : Type} (st : List Value) (k : Value → List Value → Option α) : Option α := match st with
  | v :: r => q_if (v.category == 1) (k v r)
  | _ => none
theorem q_t1_s {α : Type} {st : List Value} {k : Value → List Value → Option α} {a : α} (h : q_t1 st k = some a) : ∃ v r, st = v :: r ∧ v.category = 1 ∧ k v r = some a := by
  unfold q_t1 at h
  split at h
  · obtain ⟨h1, h2⟩ := q_if_s h
    exact ⟨_, _, rfl, eq_of_beq h1, h2⟩
  · cases h
def q_pv {α : Type} (st : List Value) (k : Value → Nat → List Value → Option α) : Option α := match st with
  | v :: .ref a :: r => k v a r
  | _ => none
theorem q_pv_s {α : Type} {st : List Value} {k : Value → Nat → List Value → Option α} {z : α} (h : q_pv st k = some z) : ∃ v a r, st = v :: .ref a :: r ∧ k v a r = some z := by
  unfold q_pv at h
  split at h
  · exact ⟨_, _, _, rfl, h⟩
  · cases h
def q_pir {α : Type} (st : List Value) (k : Int32 → Nat → List Value → Option α) : Option α := match st with
  | .int i :: .ref a :: r => k i a r
  | _ => none
theorem q_pir_s {α : Type} {st : List Value} {k : Int32 → Nat → List Value → Option α} {z : α} (h : q_pir st k = some z) : ∃ i a r, st = .int i :: .ref a :: r ∧ k i a r = some z := by
  unfold q_pir at h
  split at h
  · exact ⟨_, _, _, rfl, h⟩
  · cases h
def q_piir {α : Type} (st : List Value) (k : Int32 → Int32 → Nat → List Value → Option α) : Option α := match st with
  | .int x :: .int i :: .ref a :: r => k x i a r
  | _ => none
theorem q_piir_s {α : Type} {st : List Value} {k : Int32 → Int32 → Nat → List Value → Option α} {z : α} (h : q_piir st k = some z) : ∃ x i a r, st = .int x :: .int i :: .ref a :: r ∧ k x i a r = some z := by
  unfold q_piir at h
  split at h
  · exact ⟨_, _, _, _, rfl, h⟩
  · cases h
def q_prir {α : Type} (st : List Value) (k : Nat → Int32 → Nat → List Value → Option α) : Option α := match st with
  | .ref v :: .int i :: .ref a :: r => k v i a r
  | _ => none
theorem q_prir_s {α : Type} {st : List Value} {k : Nat → Int32 → Nat → List Value → Option α} {z : α} (h : q_prir st k = some z) : ∃ v i a r, st = .ref v :: .int i :: .ref a :: r ∧ k v i a r = some z := by
  unfold q_prir at h
  split at h
  · exact ⟨_, _, _, _, rfl, h⟩
  · cases h
def q_get (lv : q_L) (i : Nat) : Option Value := (lv.find? (fun q => q.1 == i)).map (fun q => q.2)
def q_geti (lv : q_L) (i : Nat) : Option Int32 := match q_get lv i with
  | some (.int x) => some x
  | _ => none
def q_geta (lv : q_L) (i : Nat) : Option Value := match q_get lv i with
  | some (.ref x) => some (.ref x)
  | some .null => some .null
  | _ => none
def q_set (lv : q_L) (i : Nat) (v : Value) : q_L := (i, v) :: lv.filter (fun q => !(q.1 == i) && !(q.1 + 1 == i && q.2.category == 2))
theorem q_get_k {lv : q_L} {i : Nat} {v : Value} (h : q_get lv i = some v) : ∃ k : Nat, lv[k]? = some (i, v) := by
  unfold q_get at h
  cases hf : lv.find? (fun q => q.1 == i) with
  | none => rw [hf] at h; cases h
  | some q =>
    rw [hf] at h
    cases h
    have h1 : q.1 = i := eq_of_beq (List.find?_some (p := fun q : Nat × Value => q.1 == i) hf)
    obtain ⟨k, hk⟩ := List.getElem?_of_mem (List.mem_of_find?_eq_some hf)
    exact ⟨k, by rw [hk, ← h1]⟩
theorem q_ml_get {F : Nat → Nat} {lv : q_L} {k i : Nat} {v : Value} (h : lv[k]? = some (i, v)) : (q_ml F lv)[k]? = some (i, q_v F v) := by
  unfold q_ml
  rw [List.getElem?_map, h]
  rfl
theorem q_get_s {F : Nat → Nat} {lv : q_L} {i nL : Nat} {v : Value} {ls : Array Slot} (h : q_get lv i = some v) (hl : lv_has ls nL (q_ml F lv)) : ls[i]? = some (.val (q_v F v)) := by
  obtain ⟨k, hk⟩ := q_get_k h
  exact lv_at hl k (q_ml_get hk)
theorem q_geti_g {lv : q_L} {i : Nat} {x : Int32} (h : q_geti lv i = some x) : q_get lv i = some (.int x) := by
  unfold q_geti at h
  split at h
  · cases h; assumption
  · cases h
theorem q_geti_k {lv : q_L} {i : Nat} {x : Int32} (h : q_geti lv i = some x) : ∃ k : Nat, lv[k]? = some (i, .int x) := q_get_k (q_geti_g h)
theorem q_geti_s {F : Nat → Nat} {lv : q_L} {i nL : Nat} {x : Int32} {ls : Array Slot} (h : q_geti lv i = some x) (hl : lv_has ls nL (q_ml F lv)) : ls[i]? = some (.val (.int x)) := q_get_s (q_geti_g h) hl
theorem q_geta_s {F : Nat → Nat} {lv : q_L} {i nL : Nat} {v : Value} {ls : Array Slot} (h : q_geta lv i = some v) (hl : lv_has ls nL (q_ml F lv)) : (v = .null ∧ ls[i]? = some (.val .null)) ∨ ∃ a, v = .ref a ∧ ls[i]? = some (.val (.ref (F a))) := by
  unfold q_geta at h
  split at h
  · rename_i x hx
    cases h
    exact Or.inr ⟨x, rfl, q_get_s hx hl⟩
  · rename_i hx
    cases h
    exact Or.inl ⟨rfl, q_get_s hx hl⟩
  · cases h
theorem q_set_ml (F : Nat → Nat) (lv : q_L) (i : Nat) (v : Value) : q_ml F (q_set lv i v) = (i, q_v F v) :: (q_ml F lv).filter (fun q => !(q.1 == i) && !(q.1 + 1 == i && q.2.category == 2)) := by
  unfold q_ml q_set
  rw [List.map_cons, List.filter_map]
  congr 2
  congr 1
  funext q
  obtain ⟨j, w⟩ := q
  cases w <;> rfl
def q_tg (pc : Nat) (off : Int) : Option Nat := q_if (decide (0 ≤ (pc : Int) + off)) (some ((pc : Int) + off).toNat)
theorem q_tg_s {pc t : Nat} {off : Int} (h : q_tg pc off = some t) : (pc : Int) + off = (t : Int) := by
  unfold q_tg at h
  obtain ⟨h1, h2⟩ := q_if_s h
  have h3 := of_decide_eq_true h1
  cases h2
  omega
def q_c1 (cd : ClassFile.Cond) (x : Int32) : Bool := match cd with
  | .eq => decide (x = 0)
  | .ne => !decide (x = 0)
  | .lt => decide (x < 0)
  | .ge => decide (0 ≤ x)
  | .gt => decide (0 < x)
  | .le => decide (x ≤ 0)
def q_c2 (cd : ClassFile.Cond) (x y : Int32) : Bool := match cd with
  | .eq => decide (x = y)
  | .ne => !decide (x = y)
  | .lt => decide (x < y)
  | .ge => decide (y ≤ x)
  | .gt => decide (y < x)
  | .le => decide (x ≤ y)
/-! cells -/
def q_cell (E : q_H) (a : Nat) : Option q_E := q_if (a % 2 == 0) (E[a / 2]?)
theorem q_cell_s {E : q_H} {a : Nat} {e : q_E} (h : q_cell E a = some e) : a = 2 * (a / 2) ∧ E[a / 2]? = some e := by
  obtain ⟨h1, h2⟩ := q_if_s h
  have h3 : a % 2 = 0 := eq_of_beq h1
  exact ⟨by omega, h2⟩
def q_obj (E : q_H) (a ci : Nat) : Option (List Value) := match q_cell E a with
  | some (.inr (cj, fs)) => q_if (cj == ci) (some fs)
  | _ => none
theorem q_obj_s {E : q_H} {a ci : Nat} {fs : List Value} (h : q_obj E a ci = some fs) : a = 2 * (a / 2) ∧ E[a / 2]? = some (.inr (ci, fs)) := by
  unfold q_obj at h
  split at h
  · rename_i cj fs' hx
    obtain ⟨h1, h2⟩ := q_if_s h
    have h3 : cj = ci := eq_of_beq h1
    cases h2
    subst h3
    exact q_cell_s hx
  · cases h
def q_arr (E : q_H) (a : Nat) : Option (Nat × Nat × List (Nat × Int32)) := match q_cell E a with
  | some (.inl (t, n, .inl f)) => some (t, n, f)
  | _ => none
theorem q_arr_s {E : q_H} {a : Nat} {q : Nat × Nat × List (Nat × Int32)} (h : q_arr E a = some q) : a = 2 * (a / 2) ∧ E[a / 2]? = some (.inl (q.1, q.2.1, .inl q.2.2)) := by
  unfold q_arr at h
  split at h
  · rename_i t n f hx
    cases h
    exact q_cell_s hx
  · cases h
def q_arrR (E : q_H) (a : Nat) : Option (Nat × Nat × List (Nat × Nat)) := match q_cell E a with
  | some (.inl (t, n, .inr f)) => some (t, n, f)
  | _ => none
theorem q_arrR_s {E : q_H} {a : Nat} {q : Nat × Nat × List (Nat × Nat)} (h : q_arrR E a = some q) : a = 2 * (a / 2) ∧ E[a / 2]? = some (.inl (q.1, q.2.1, .inr q.2.2)) := by
  unfold q_arrR at h
  split at h
  · rename_i t n f hx
    cases h
    exact q_cell_s hx
  · cases h
def q_alen (E : q_H) (a : Nat) : Option Nat := match q_cell E a with
  | some (.inl (t, n, _)) => q_if (decide (t < 6)) (some n)
  | _ => none
def q_in (i : Int32) (n : Nat) : Bool := !decide (i < 0) && decide (i.toNatClampNeg < n)
theorem q_in_s {i : Int32} {n : Nat} (h : q_in i n = true) : vp_in i n := by
  unfold q_in at h
  simp only [Bool.and_eq_true, Bool.not_eq_true', decide_eq_false_iff_not, decide_eq_true_eq] at h
  exact fun q => q.elim h.1 (fun q => by omega)
def q_nar (ty : FieldType) (x : Int32) : Bool := match ty with
  | .int => true
  | .boolean => decide (x = 0) || decide (x = 1)
  | .byte => decide (x.toInt8.toInt32 = x)
  | .char => decide (x.toUInt32.toUInt16.toUInt32.toInt32 = x)
  | _ => false
theorem q_nar_s {ty : FieldType} {x : Int32} (h : q_nar ty x = true) : narrow ty (.int x) = .int x := by
  unfold q_nar at h
  split at h
  · rfl
  · simp only [Bool.or_eq_true, decide_eq_true_eq] at h
    rcases h with rfl | rfl <;> rfl
  · show Value.int _ = _
    rw [of_decide_eq_true h]
  · show Value.int _ = _
    rw [of_decide_eq_true h]
  · cases h
def q_el {α : Type} (x y : Option α) : Option α := match x with
  | some z => some z
  | none => y
theorem q_el_s {α : Type} {x y : Option α} {z : α} (h : q_el x y = some z) : x = some z ∨ y = some z := by
  unfold q_el at h
  split at h
  · exact Or.inl h
  · exact Or.inr h
/-! texts: the ref 4j + 1 is the text constant j, 4j + 3 the row of its signs -/
def q_sget (o idx a : Nat) : Option Value := q_if (o == 14 && a % 4 == 1 && decide (a / 4 < q_nS)) (if idx = 9 then some (.ref (a + 2)) else if idx = 15 then some (.int 0) else none)
def q_sl (a : Nat) : Option Nat := q_if (a % 4 == 3 && decide (a / 4 < q_nS)) (some (q_sb (a / 4)).length)
def q_rcv (E : q_H) (a o : Nat) : Bool := bif o == 14 then (a % 4 == 1 && decide (a / 4 < q_nS)) else (decide (o < 13) && (q_obj E a o).isSome)
def q_SF (ad : Nat → Nat) (b0 : Nat) (U : State) (H : Heap) : Prop := va_Z "java/lang/String" "COMPACT_STRINGS" "Z" (.int 1) (fun q => b0 ≤ q) U H ∧ va_Zq "jdk/internal/util/Preconditions" "SIOOBE_FORMATTER" "Ljava/util/function/BiFunction;" (fun q => b0 ≤ q) U H ∧ ∀ j, j < q_nS → va_O "java/lang/String" (ad (2 * j)) (fun q => b0 ≤ q) U H ∧ va_OF "java/lang/String" "coder" "B" (.int 0) (ad (2 * j)) (fun q => b0 ≤ q) U H ∧ va_OF "java/lang/String" "value" "[B" (.ref (ad (2 * j + 1))) (ad (2 * j)) (fun q => b0 ≤ q) U H ∧ va_T .byte (ad (2 * j + 1)) (q_sb j).length (fun k => .int ((q_sb j).getD k 0)) (fun q => b0 ≤ q) U H
theorem q_SF.moved {ad : Nat → Nat} {b0 : Nat} {u U : State} {H : Heap} (hvm : u.vm.Alike U.vm) (h : q_SF ad b0 u H) : q_SF ad b0 U H :=
  ⟨h.1.moved hvm, h.2.1.moved hvm, fun j hj => ⟨(h.2.2 j hj).1.moved hvm, (h.2.2 j hj).2.1.moved hvm, (h.2.2 j hj).2.2.1.moved hvm, (h.2.2 j hj).2.2.2.moved hvm⟩⟩
theorem q_SF.kept {ad : Nat → Nat} {b0 : Nat} {U : State} {H H1 : Heap} (h : q_SF ad b0 U H) (hq : ∀ a : Nat, a < H.size → ¬ b0 ≤ a → H1[a]? = H[a]?) : q_SF ad b0 U H1 :=
  ⟨h.1.kept hq, h.2.1.kept hq, fun j hj => ⟨(h.2.2 j hj).1.kept hq, (h.2.2 j hj).2.1.kept hq, (h.2.2 j hj).2.2.1.kept hq, (h.2.2 j hj).2.2.2.kept hq⟩⟩
def q_fit (ty : FieldType) (v : Value) : Bool := match ty, v with
  | .int, .int _ => true
  | .boolean, .int x => decide (x = 0) || decide (x = 1)
  | .object _, .ref _ => true
  | .object _, .null => true
  | .array _, .ref _ => true
  | .array _, .null => true
  | _, _ => false
theorem q_fit_s {F : Nat → Nat} {ty : FieldType} {v : Value} (h : q_fit ty v = true) : narrow ty (q_v F v) = q_v F v ∧ fits ty (q_v F v) = true := by
  unfold q_fit at h
  split at h
  · exact ⟨rfl, rfl⟩
  · rename_i x
    simp only [Bool.or_eq_true, decide_eq_true_eq] at h
    rcases h with rfl | rfl <;> exact ⟨rfl, rfl⟩
  · exact ⟨rfl, rfl⟩
  · exact ⟨rfl, rfl⟩
  · exact ⟨rfl, rfl⟩
  · exact ⟨rfl, rfl⟩
  · cases h
/-- a field that is not final, or a final one of the constructor's own class -/
def q_fin (o : Nat) (ini : Bool) (ci k nst : Nat) : Bool := !(q_TX ci k).2.2.2 || (ini && (nst == 0) && (o == ci))
def q_rt (t : Nat) : Bool := t == 3 || t == 4
def q_rc (t : Nat) : Option Nat := if t = 3 then some 3 else if t = 4 then some 8 else none
def q_nat (ty : ClassFile.ArrayType) : Option Nat := match ty with
  | .byte => some 0
  | .int => some 1
  | .boolean => some 2
  | _ => none
def q_ldc (o idx : Nat) : Option Value := match q_ldcw o idx with
  | some x => some (.int x)
  | none => ((q_strT o).find? (fun q => q.1 == idx)).map (fun q => .ref (2 * (2 * q.2) + 1))
def q_tys (cy : Nat → ClassId) : List (ClassId × FieldType) := [(cy 0, .byte), (cy 1, .int), (cy 2, .boolean), (cy 3, .object "DocumentHouse$Index"), (cy 4, .object "DocumentHouse$Shelf"), (cy 5, .array .int)]
def q_AOA (U : State) : Prop := (Cond.arrayOver (.array .int)).before #[] U = true
theorem q_AOA.moved {u U : State} (hvm : u.vm.Alike U.vm) (h : q_AOA u) : q_AOA U := by
  have h1 : (Cond.arrayOver (.array .int)).before #[] (u.setVm U.vm) = true := by
    rw [Cond.arrayOver_setVmC hvm]
    exact h
  exact h1
/-- what is known of the tables beside the words: nest mates, texts, arrays of objects -/
def q_T (ad : Nat → Nat) (U : State) : Prop := (∀ w ∈ q_nst, va_Nw w U) ∧ (∀ q ∈ q_strs, vk_R q.1 q.2.1 q.2.2.1 (ad q.2.2.2) U) ∧ va_AO "DocumentHouse$Index" U ∧ va_AO "DocumentHouse$Shelf" U ∧ q_AOA U
section QI
variable {p : Program} {l : Launch} {e : Env} {R : Room} {s : State} {m : MethodId} {args : Array Value} {below : List Frame} {meth : Method} {c : Code} {Q : State → Prop} {H0 H : Heap} {D : va_G} {b0 : Nat} {ad : Nat → Nat} {cy : Nat → ClassId} {cc : ByteArray} {nL o : Nat} {locs : List Loc} {cells slots : Nat} {ls : Array Slot} {pc : Nat} {E : q_H} {r : List Value} {ini : Bool}
/-- W at a pure frame -/
def q_G (p : Program) (l : Launch) (e : Env) (R : Room) (s : State) (m : MethodId) (args : Array Value) (below : List Frame) (meth : Method) (c : Code) (Q : State → Prop) (H0 : Heap) (D : va_G) (b0 : Nat) (ad : Nat → Nat) (cy : Nat → ClassId) (nL : Nat) (pc : Nat) (lv : q_L) (st : List Value) (E : q_H) (cells slots : Nat) : Prop :=
  ∀ (ls : Array Slot) (H : Heap) (locs : List Loc), lv_has ls nL (q_ml (q_rho b0 ad) lv) → q_W D b0 (q_c (q_rho b0 ad) cy) E H → va_S (fun q => b0 ≤ q) H0 H locs → W p l e R s m args below meth c H locs cells slots Q (F0 m pc ls (st.map (q_v (q_rho b0 ad))))
theorem q_fld_s {o i : Nat} {q : Nat × Nat × Nat} (h : q_fld o i = some q) : q.1 < 13 ∧ q.2.1 < q_N q.1 ∧ (q_TX q.1 q.2.1).1 = q_R q.1 ∧ ((q.2.2 = 0 ∧ Cond.fieldLink (q_R o) i (q_TX q.1 q.2.1).1 (q_TX q.1 q.2.1).2.1 (q_TX q.1 q.2.1).2.2.1 ∈ lw_tbl) ∨ (¬ q.2.2 = 0 ∧ Cond.fieldLinkNest (q_R o) i (q_TX q.1 q.2.1).1 (q_TX q.1 q.2.1).2.1 (q_TX q.1 q.2.1).2.2.1 "DocumentHouse" ∈ lw_tbl)) := by
  unfold q_fld at h
  cases hf : (q_fldT o).find? (fun q => q.1 == i) with
  | none => rw [hf] at h; cases h
  | some x =>
    rw [hf] at h
    cases h
    have h1 : x.1 = i := eq_of_beq (List.find?_some (p := fun q : Nat × Nat × Nat × Nat × Nat => q.1 == i) hf)
    have h2 := q_fldC o x (List.mem_of_find?_eq_some hf)
    simp only [Bool.and_eq_true, decide_eq_true_eq] at h2
    obtain ⟨⟨⟨g1, g2⟩, g3⟩, g4⟩ := h2
    have g5 := q_lwt g1
    refine ⟨g2, g3, g4, ?_⟩
    unfold q_fldW at g5
    by_cases hz : x.2.2.2.1 = 0
    · rw [if_pos hz, h1] at g5
      exact Or.inl ⟨hz, g5⟩
    · rw [if_neg hz, h1] at g5
      exact Or.inr ⟨hz, g5⟩
theorem q_ldcw_ok {o i : Nat} {x : Int32} (h : q_ldcw o i = some x) : Cond.constant (q_R o) i x ∈ q_big := by
  unfold q_ldcw at h
  cases hf : (q_cstT o).find? (fun q => q.1 == i) with
  | none => rw [hf] at h; cases h
  | some y =>
    rw [hf] at h
    cases h
    have h1 : y.1 = i := eq_of_beq (List.find?_some (p := fun q : Nat × Nat × Nat => q.1 == i) hf)
    have h2 := q_cstC o y (List.mem_of_find?_eq_some hf)
    have g5 := q_lwt (of_decide_eq_true h2)
    rw [h1] at g5
    exact q_mem g5 rfl
theorem q_ldc_ok {F : Nat → Nat} (hx : p.tables.exec = Jvm.exec) (hb : c.code = cc) (hown : s.vm.findClass (q_R o) = some m.cls) (hts : ∀ w ∈ q_big, w.before args s = true) (hT : q_T ad s) (hF : F = q_rho b0 ad) {idx : Nat} {v : Value} (hdg : decode cc pc = .ok (.ldc idx, 2)) (hv : q_ldc o idx = some v) (kk : W p l e R s m args below meth c H locs cells slots Q (F0 m (pc + 2) ls (q_v F v :: r))) : W p l e R s m args below meth c H locs cells slots Q (F0 m pc ls r) := by
  unfold q_ldc at hv
  split at hv
  · rename_i x hx2
    cases hv
    exact lv_ldc hx hb hown (hts _ (q_ldcw_ok hx2)) hdg kk
  · cases hf : (q_strT o).find? (fun q => q.1 == idx) with
    | none => rw [hf] at hv; cases hv
    | some y =>
      rw [hf] at hv
      cases hv
      have h1 : y.1 = idx := eq_of_beq (List.find?_some (p := fun q : Nat × Nat => q.1 == idx) hf)
      have h2 := of_decide_eq_true (q_strC o y (List.mem_of_find?_eq_some hf))
      have h3 := hT.2.1 _ h2
      rw [h1] at h3
      subst hF
      have h4 : q_v (q_rho b0 ad) (.ref (2 * (2 * y.2) + 1)) = .ref (ad (2 * y.2)) := by
        show Value.ref _ = _
        rw [q_rho1]
      rw [h4] at kk
      exact va_ldcS hx hb hown h3 hdg kk
theorem q_ldcW_ok {F : Nat → Nat} (hx : p.tables.exec = Jvm.exec) (hb : c.code = cc) (hown : s.vm.findClass (q_R o) = some m.cls) (hts : ∀ w ∈ q_big, w.before args s = true) (hT : q_T ad s) (hF : F = q_rho b0 ad) {idx : Nat} {v : Value} (hdg : decode cc pc = .ok (.ldc_w idx, 3)) (hv : q_ldc o idx = some v) (kk : W p l e R s m args below meth c H locs cells slots Q (F0 m (pc + 3) ls (q_v F v :: r))) : W p l e R s m args below meth c H locs cells slots Q (F0 m pc ls r) := by
  unfold q_ldc at hv
  split at hv
  · rename_i x hx2
    cases hv
    exact lv_ldcw hx hb hown (hts _ (q_ldcw_ok hx2)) hdg kk
  · cases hf : (q_strT o).find? (fun q => q.1 == idx) with
    | none => rw [hf] at hv; cases hv
    | some y =>
      rw [hf] at hv
      cases hv
      have h1 : y.1 = idx := eq_of_beq (List.find?_some (p := fun q : Nat × Nat => q.1 == idx) hf)
      have h2 := of_decide_eq_true (q_strC o y (List.mem_of_find?_eq_some hf))
      have h3 := hT.2.1 _ h2
      rw [h1] at h3
      subst hF
      have h4 : q_v (q_rho b0 ad) (.ref (2 * (2 * y.2) + 1)) = .ref (ad (2 * y.2)) := by
        show Value.ref _ = _
        rw [q_rho1]
      rw [h4] at kk
      intro T hT X
      obtain ⟨t, a1, b1⟩ := kk T hT X
      exact ⟨t, X.ldcStringW hx hown h3.1 h3.2 (g := F0 m pc ls r) rfl (by rw [hb]; exact hdg) t a1, b1⟩
theorem q_ref0 {a : Nat} (h : a = 2 * (a / 2)) : q_v (q_rho b0 ad) (.ref a) = .ref (b0 + a / 2) := by
  show Value.ref _ = _
  rw [h, q_rho0, ← h]
theorem q_ws_at {G : q_E → va_E} {i : Nat} {x : q_E} (h : E[i]? = some x) : (q_ws G b0 E)[i]? = some (b0 + i, G x) := by
  rw [q_ws_get, h]
  rfl
theorem q_get_ok (hx : p.tables.exec = Jvm.exec) (hb : c.code = cc) (hown : s.vm.findClass (q_R o) = some m.cls) (hts : ∀ w ∈ q_big, w.before args s = true) (hT : q_T ad s) (hK : va_K D vwCl (q_tys cy) s) {idx a : Nat} {q : Nat × Nat × Nat} {fs : List Value} {v : Value} (hq : q_fld o idx = some q) (hf : q_obj E a q.1 = some fs) (hv : fs[q.2.1]? = some v) (hdg : decode cc pc = .ok (.getfield idx, 3)) (hw : q_W D b0 (q_c (q_rho b0 ad) cy) E H) (kk : W p l e R s m args below meth c H locs cells slots Q (F0 m (pc + 3) ls (q_v (q_rho b0 ad) v :: r))) : W p l e R s m args below meth c H locs cells slots Q (F0 m pc ls (q_v (q_rho b0 ad) (.ref a) :: r)) := by
  obtain ⟨h1, h2, h3, h4⟩ := q_fld_s hq
  obtain ⟨g1, g2⟩ := q_obj_s hf
  rw [q_ref0 g1]
  have hv2 : (fs.map (q_v (q_rho b0 ad)))[q.2.1]? = some (q_v (q_rho b0 ad) v) := by rw [List.getElem?_map, hv]; rfl
  rcases h4 with ⟨-, h4⟩ | ⟨hn, h4⟩
  · exact va_get hx hb (Ts := q_big) hts (q_lay_big h1) hown hK hw.2 (a / 2) (q_ws_at g2) (q_vw _ h1) q.2.1 h2 (hts _ (q_mem h4 rfl)) (by rw [h3]; exact fun _ h => h) hv2 hdg kk
  · exact va_getN hx hb (Ts := q_big) hts (q_lay_big h1) hown hK hw.2 (a / 2) (q_ws_at g2) (q_vw _ h1) q.2.1 h2 (va_Nw.use rfl (hT.1 _ (q_memN h4 rfl))) (by rw [h3]; exact fun _ h => h) hv2 hdg kk
theorem q_W_set {G : q_E → va_E} {H1 : Heap} {i : Nat} {x : q_E} (hz : H1.size = H.size) (hw : q_W D b0 G E H) (h : va_P D vwCl ((q_ws G b0 E).set i (b0 + i, G x)) H1) : q_W D b0 G (E.set i x) H1 := by
  refine ⟨?_, ?_⟩
  · rw [hz, hw.1, List.length_set]
  · rw [← q_ws_set]
    exact h
theorem q_put_ok (hx : p.tables.exec = Jvm.exec) (hb : c.code = cc) (hown : s.vm.findClass (q_R o) = some m.cls) (hts : ∀ w ∈ q_big, w.before args s = true) (hT : q_T ad s) (hK : va_K D vwCl (q_tys cy) s) (hini : ini = true → meth.name = "<init>") {idx a : Nat} {q : Nat × Nat × Nat} {fs : List Value} {v : Value} (hq : q_fld o idx = some q) (hf : q_obj E a q.1 = some fs) (e2 : (q_fit (q_Ty q.1 q.2.1) v && q_fin o ini q.1 q.2.1 q.2.2 && decide (q.2.1 < fs.length)) = true) (hdg : decode cc pc = .ok (.putfield idx, 3)) (hw : q_W D b0 (q_c (q_rho b0 ad) cy) E H) (hS : va_S (fun q => b0 ≤ q) H0 H locs) (kk : ∀ (H1 : Heap) (locs1 : List Loc), q_W D b0 (q_c (q_rho b0 ad) cy) (E.set (a / 2) (.inr (q.1, fs.set q.2.1 v))) H1 → va_S (fun q => b0 ≤ q) H0 H1 locs1 → W p l e R s m args below meth c H1 locs1 cells slots Q (F0 m (pc + 3) ls r)) : W p l e R s m args below meth c H locs cells slots Q (F0 m pc ls (q_v (q_rho b0 ad) v :: q_v (q_rho b0 ad) (.ref a) :: r)) := by
  obtain ⟨h1, h2, h3, h4⟩ := q_fld_s hq
  obtain ⟨g1, g2⟩ := q_obj_s hf
  simp only [Bool.and_eq_true, decide_eq_true_eq] at e2
  obtain ⟨⟨e2, e3⟩, e4⟩ := e2
  obtain ⟨n1, n2⟩ := q_fit_s (F := q_rho b0 ad) e2
  rw [q_ref0 g1]
  obtain ⟨ci, k, nst⟩ := q
  dsimp only at *
  have hts2 := hts
  have hin := q_lay_big h1
  have hc := q_vw _ h1
  have hd := q_ty_ok _ h1 _ h2
  have he := q_ws_at (b0 := b0) (G := q_c (q_rho b0 ad) cy) g2
  have hl : k < (fs.map (q_v (q_rho b0 ad))).length := by rw [List.length_map]; exact e4
  have hap := va_apart (own := q_R o) hts hin (q_Ty ci) (q_ty_ok _ h1) (q_nm_ok _ h1) hK hc
  obtain ⟨r0, h5, cell, q1, q2, q3, q4⟩ := hw.2 _ _ he
  have hr : r0 = (q_R ci, q_TX ci, q_N ci) := Option.some.inj (h5.symm.trans hc)
  subst hr
  obtain ⟨hSl, hfc, kC, hkC, hkind⟩ := hK.1 ci _ hc
  obtain ⟨cf, kf, fi, f, hi, hsl⟩ := hSl k h2
  have hlay := hts _ (hin _ (u_in_lay h2))
  have hst := (u_facts hfc hkC (u_lays hts hin h2) hi).1
  have hsame : s.fieldFound? (q_TX ci k).1 (q_TX ci k).2.1 (q_TX ci k).2.2.1 = some (cf, kf, fi, f) := hi
  have fin : ∀ (H' : Heap), H'[b0 + a / 2]? = some (cell.setSlot (D.2 ci k) (q_v (q_rho b0 ad) v)) → H'.size = H.size → (∀ q : Nat, q ≠ b0 + a / 2 → H'[q]? = H[q]?) → q_W D b0 (q_c (q_rho b0 ad) cy) (E.set (a / 2) (.inr (ci, fs.set k v))) H' := by
    intro H' f1 f2 f3
    refine q_W_set f2 hw ?_
    have hm : q_c (q_rho b0 ad) cy (.inr (ci, fs.set k v)) = .inr (ci, (fs.map (q_v (q_rho b0 ad))).set k (q_v (q_rho b0 ad) v)) := by
      show Sum.inr (ci, (fs.set k v).map _) = _
      rw [List.map_set]
    rw [hm]
    exact hw.2.set (q_ws_D b0 E) he ⟨_, hc, t_OB.to (V := updV (vp_V (fs.map (q_v (q_rho b0 ad)))) k (q_v (q_rho b0 ad) v)) ⟨_, f1, q2, q3, t_set q4 hap h2 _⟩ (fun j _ => vp_updV_set hl _ j)⟩ f3
  unfold u_lay at hlay
  by_cases hfin : (q_TX ci k).2.2.2 = true
  · rw [if_pos hfin] at hlay
    have e5 : (ini = true ∧ nst = 0) ∧ o = ci := by
      unfold q_fin at e3
      rw [hfin] at e3
      simpa using e3
    obtain ⟨⟨e5, e6⟩, rfl⟩ := e5
    have hcf : m.cls = cf := by
      obtain ⟨_, _, c', _, _, _, -, -, hf', -, -, -, hown2, -⟩ := Cond.laysFinal_spec hlay
      have e1 : c' = cf := by have := hi.symm.trans hf'; simp at this; exact this.1.symm
      rw [h3] at hown2
      rw [← e1]; exact Option.some.inj (hown.symm.trans hown2)
    have h6 := u_fits hfc hkC hkind (Or.inr hlay) hi hd n1 n2
    rcases h4 with ⟨-, h4⟩ | ⟨hn, h4⟩
    · refine W.putFinK hx hb hown (hts _ (q_mem h4 rfl)) hsame hst hcf (hini e5) (by rw [q2]; exact h6) q1 q3 (by rw [hsl]; exact k2_hasslot (q4 k h2)) rfl rfl hdg fun H' f1 f2 f3 => ?_
      rw [hsl] at f1 ⊢
      exact kk H' _ (fin H' f1 f2 f3) (hS.put f2 f3 (Nat.le_add_right _ _))
    · exact absurd e6 hn
  · rw [if_neg hfin] at hlay
    have h6 := u_store hfc hkC hkind hlay hi hd n1 n2
    rcases h4 with ⟨-, h4⟩ | ⟨hn, h4⟩
    · refine W.putK hx hb (f := f) ⟨hown, hts _ (q_mem h4 rfl), ⟨_, _, _, hsame⟩, hst⟩ (by rw [q2]; exact h6) q1 q3 (by rw [hsl]; exact k2_hasslot (q4 k h2)) rfl rfl hdg fun H' f1 f2 f3 => ?_
      rw [hsl] at f1 ⊢
      exact kk H' _ (fin H' f1 f2 f3) (hS.put f2 f3 (Nat.le_add_right _ _))
    · refine va_WputK hx hb (f := f) hown (va_Nw.use rfl (hT.1 _ (q_memN h4 rfl))) hsame hst (by rw [q2]; exact h6) q1 q3 (by rw [hsl]; exact k2_hasslot (q4 k h2)) rfl rfl hdg fun H' f1 f2 f3 => ?_
      rw [hsl] at f1 ⊢
      exact kk H' _ (fin H' f1 f2 f3) (hS.put f2 f3 (Nat.le_add_right _ _))
end QI
section QA
variable {p : Program} {l : Launch} {e : Env} {R : Room} {s : State} {m : MethodId} {args : Array Value} {below : List Frame} {meth : Method} {c : Code} {Q : State → Prop} {H0 H : Heap} {D : va_G} {b0 : Nat} {ad : Nat → Nat} {cy : Nat → ClassId} {cc : ByteArray} {nL o : Nat} {locs : List Loc} {cells slots : Nat} {ls : Array Slot} {pc : Nat} {E : q_H} {r : List Value} {ini : Bool}
theorem q_tysC {t : Nat} (h : t < 6) : ∃ ty, (q_tys cy)[t]? = some (cy t, ty) := by
  match t, h with
  | 0, _ => exact ⟨_, rfl⟩
  | 1, _ => exact ⟨_, rfl⟩
  | 2, _ => exact ⟨_, rfl⟩
  | 3, _ => exact ⟨_, rfl⟩
  | 4, _ => exact ⟨_, rfl⟩
  | 5, _ => exact ⟨_, rfl⟩
  | n + 6, h => exact absurd h (by omega)
theorem q_cL {F : Nat → Nat} {t n : Nat} {x : List (Nat × Int32) ⊕ List (Nat × Nat)} : ∃ y, q_c F cy (.inl (t, n, x)) = .inl (cy t, n, y) := by
  rcases x with x | x <;> exact ⟨_, rfl⟩
theorem q_alen_ok (hx : p.tables.exec = Jvm.exec) (hb : c.code = cc) (hK : va_K D vwCl (q_tys cy) s) {a n : Nat} (hn : q_alen E a = some n) (hdg : decode cc pc = .ok (.arraylength, 1)) (hw : q_W D b0 (q_c (q_rho b0 ad) cy) E H) (kk : W p l e R s m args below meth c H locs cells slots Q (F0 m (pc + 1) ls (.int (Int32.ofNat n) :: r))) : W p l e R s m args below meth c H locs cells slots Q (F0 m pc ls (q_v (q_rho b0 ad) (.ref a) :: r)) := by
  unfold q_alen at hn
  split at hn
  · rename_i t n' x hx2
    obtain ⟨h1, h2⟩ := q_if_s hn
    have h1 := of_decide_eq_true h1
    cases h2
    obtain ⟨g1, g2⟩ := q_cell_s hx2
    rw [q_ref0 g1]
    obtain ⟨ty, hty⟩ := q_tysC (cy := cy) h1
    obtain ⟨y, hy⟩ := q_cL (F := q_rho b0 ad) (cy := cy) (t := t) (n := n) (x := x)
    have hat := q_ws_at (b0 := b0) (G := q_c (q_rho b0 ad) cy) g2
    rw [hy] at hat
    exact va_alen hx hb hK hw.2 (a / 2) t hat hty rfl hdg kk
  · cases hn
theorem q_bald_ok (hx : p.tables.exec = Jvm.exec) (hb : c.code = cc) (hK : va_K D vwCl (q_tys cy) s) {a : Nat} {i : Int32} {q : Nat × Nat × List (Nat × Int32)} (hq : q_arr E a = some q) (e2 : ((q.1 == 0 || q.1 == 2) && q_in i q.2.1) = true) (hdg : decode cc pc = .ok (.baload, 1)) (hw : q_W D b0 (q_c (q_rho b0 ad) cy) E H) (kk : W p l e R s m args below meth c H locs cells slots Q (F0 m (pc + 1) ls (.int (q_lk q.2.2 i.toNatClampNeg) :: r))) : W p l e R s m args below meth c H locs cells slots Q (F0 m pc ls (.int i :: q_v (q_rho b0 ad) (.ref a) :: r)) := by
  obtain ⟨g1, g2⟩ := q_arr_s hq
  rw [q_ref0 g1]
  simp only [Bool.and_eq_true, Bool.or_eq_true, beq_iff_eq] at e2
  obtain ⟨e2, e3⟩ := e2
  have hi := q_in_s e3
  obtain ⟨t, n, f⟩ := q
  dsimp only at *
  have hat := q_ws_at (b0 := b0) (G := q_c (q_rho b0 ad) cy) g2
  rcases e2 with rfl | rfl
  · exact va_bald hx hb hK hw.2 (a / 2) 0 (cA := cy 0) hat rfl hi hdg kk
  · exact va_zald hx hb hK hw.2 (a / 2) 2 (cA := cy 2) hat rfl hi hdg kk
theorem q_iald_ok (hx : p.tables.exec = Jvm.exec) (hb : c.code = cc) (hK : va_K D vwCl (q_tys cy) s) {a : Nat} {i : Int32} {q : Nat × Nat × List (Nat × Int32)} (hq : q_arr E a = some q) (e2 : (q.1 == 1 && q_in i q.2.1) = true) (hdg : decode cc pc = .ok (.iaload, 1)) (hw : q_W D b0 (q_c (q_rho b0 ad) cy) E H) (kk : W p l e R s m args below meth c H locs cells slots Q (F0 m (pc + 1) ls (.int (q_lk q.2.2 i.toNatClampNeg) :: r))) : W p l e R s m args below meth c H locs cells slots Q (F0 m pc ls (.int i :: q_v (q_rho b0 ad) (.ref a) :: r)) := by
  obtain ⟨g1, g2⟩ := q_arr_s hq
  rw [q_ref0 g1]
  simp only [Bool.and_eq_true, beq_iff_eq] at e2
  obtain ⟨e2, e3⟩ := e2
  have hi := q_in_s e3
  obtain ⟨t, n, f⟩ := q
  dsimp only at *
  subst e2
  exact va_iald hx hb hK hw.2 (a / 2) 1 (cA := cy 1) (q_ws_at (b0 := b0) (G := q_c (q_rho b0 ad) cy) g2) rfl hi hdg kk
theorem q_arrfun {f : Nat → Int32} {j : Nat} {x : Int32} {cA : ClassId} {n : Nat} (hz : (arrV cA n (fun j => .int (f j))).setSlot j (.int x) = (arrV cA n (fun j => .int (f j))).setSlot j (.int x)) : (arrV cA n (fun j => .int (f j))).setSlot j (.int x) = vp_cell cA (n, .inl (upd f j x)) := by
  rw [vp_cell_i, arrV_store]
  congr 1
  funext q
  by_cases hq : q = j
  · subst hq
    simp [updV, upd]
  · simp [updV, upd, hq]
theorem q_bast_ok (hx : p.tables.exec = Jvm.exec) (hb : c.code = cc) (hK : va_K D vwCl (q_tys cy) s) {a : Nat} {i x : Int32} {q : Nat × Nat × List (Nat × Int32)} (hq : q_arr E a = some q) (e2 : ((q.1 == 0 || q.1 == 2) && q_in i q.2.1) = true) (hdg : decode cc pc = .ok (.bastore, 1)) (hw : q_W D b0 (q_c (q_rho b0 ad) cy) E H) (hS : va_S (fun q => b0 ≤ q) H0 H locs) (kk : ∀ (H1 : Heap) (locs1 : List Loc), q_W D b0 (q_c (q_rho b0 ad) cy) (E.set (a / 2) (.inl (q.1, q.2.1, .inl (bif q.1 == 0 then (i.toNatClampNeg, x.toInt8.toInt32) :: q.2.2 else q_upz q.2.2 i.toNatClampNeg (x &&& 1))))) H1 → va_S (fun q => b0 ≤ q) H0 H1 locs1 → W p l e R s m args below meth c H1 locs1 cells slots Q (F0 m (pc + 1) ls r)) : W p l e R s m args below meth c H locs cells slots Q (F0 m pc ls (.int x :: .int i :: q_v (q_rho b0 ad) (.ref a) :: r)) := by
  obtain ⟨g1, g2⟩ := q_arr_s hq
  rw [q_ref0 g1]
  simp only [Bool.and_eq_true, Bool.or_eq_true, beq_iff_eq] at e2
  obtain ⟨e2, e3⟩ := e2
  have hi := q_in_s e3
  obtain ⟨t, n, f⟩ := q
  dsimp only at *
  have hat := q_ws_at (b0 := b0) (G := q_c (q_rho b0 ad) cy) g2
  rcases e2 with rfl | rfl
  · refine W.bast hx hb (hw.2 _ _ hat) ((hK.2 0 _ rfl).1 n (fun j => .int (q_lk f j))) (fun q => by cases q) (by show ¬ (i < 0 ∨ (arrV _ _ _).slots.size ≤ _); rw [arrV_size]; exact hi) rfl rfl hdg fun H1 f1 f2 f3 => ?_
    refine kk H1 _ (q_W_set f2 hw (hw.2.set (q_ws_D b0 E) hat ?_ f3)) (hS.put f2 f3 (Nat.le_add_right _ _))
    show H1[b0 + a / 2]? = some (vp_cell _ _)
    rw [f1]
    show _ = some (vp_cell (cy 0) (n, .inl (q_lk ((i.toNatClampNeg, x.toInt8.toInt32) :: f))))
    rw [q_lk_up]
    exact congrArg some (q_arrfun rfl)
  · refine W.zast hx hb (hw.2 _ _ hat) ((hK.2 2 _ rfl).1 n (fun j => .int (q_lk f j))) (fun q => by cases q) (by show ¬ (i < 0 ∨ (arrV _ _ _).slots.size ≤ _); rw [arrV_size]; exact hi) rfl rfl hdg fun H1 f1 f2 f3 => ?_
    refine kk H1 _ (q_W_set f2 hw (hw.2.set (q_ws_D b0 E) hat ?_ f3)) (hS.put f2 f3 (Nat.le_add_right _ _))
    show H1[b0 + a / 2]? = some (vp_cell _ _)
    rw [f1]
    show _ = some (vp_cell (cy 2) (n, .inl (q_lk (q_upz f i.toNatClampNeg (x &&& 1)))))
    rw [q_lk_upz]
    exact congrArg some (q_arrfun rfl)
theorem q_iast_ok (hx : p.tables.exec = Jvm.exec) (hb : c.code = cc) (hK : va_K D vwCl (q_tys cy) s) {a : Nat} {i x : Int32} {q : Nat × Nat × List (Nat × Int32)} (hq : q_arr E a = some q) (e2 : (q.1 == 1 && q_in i q.2.1) = true) (hdg : decode cc pc = .ok (.iastore, 1)) (hw : q_W D b0 (q_c (q_rho b0 ad) cy) E H) (hS : va_S (fun q => b0 ≤ q) H0 H locs) (kk : ∀ (H1 : Heap) (locs1 : List Loc), q_W D b0 (q_c (q_rho b0 ad) cy) (E.set (a / 2) (.inl (q.1, q.2.1, .inl ((i.toNatClampNeg, x) :: q.2.2)))) H1 → va_S (fun q => b0 ≤ q) H0 H1 locs1 → W p l e R s m args below meth c H1 locs1 cells slots Q (F0 m (pc + 1) ls r)) : W p l e R s m args below meth c H locs cells slots Q (F0 m pc ls (.int x :: .int i :: q_v (q_rho b0 ad) (.ref a) :: r)) := by
  obtain ⟨g1, g2⟩ := q_arr_s hq
  rw [q_ref0 g1]
  simp only [Bool.and_eq_true, beq_iff_eq] at e2
  obtain ⟨e2, e3⟩ := e2
  have hi := q_in_s e3
  obtain ⟨t, n, f⟩ := q
  dsimp only at *
  subst e2
  have hat := q_ws_at (b0 := b0) (G := q_c (q_rho b0 ad) cy) g2
  refine W.iast hx hb (hw.2 _ _ hat) ((hK.2 1 _ rfl).1 n (fun j => .int (q_lk f j))) (fun q => by cases q) (by show ¬ (i < 0 ∨ (arrV _ _ _).slots.size ≤ _); rw [arrV_size]; exact hi) rfl rfl hdg fun H1 f1 f2 f3 => ?_
  refine kk H1 _ (q_W_set f2 hw (hw.2.set (q_ws_D b0 E) hat ?_ f3)) (hS.put f2 f3 (Nat.le_add_right _ _))
  show H1[b0 + a / 2]? = some (vp_cell _ _)
  rw [f1]
  show _ = some (vp_cell (cy 1) (n, .inl (q_lk ((i.toNatClampNeg, x) :: f))))
  rw [q_lk_up]
  exact congrArg some (q_arrfun rfl)
theorem q_set_same : ∀ (E : q_H) (i : Nat) (x : q_E), E[i]? = some x → E.set i x = E := by
  intro E
  induction E with
  | nil => intro i x h; rfl
  | cons y E ih =>
    intro i x h
    cases i with
    | zero =>
      have h2 : y = x := by simpa using h
      rw [h2]
      rfl
    | succ i =>
      rw [List.getElem?_cons_succ] at h
      show y :: E.set i x = y :: E
      rw [ih i x h]
theorem q_bast_same {a j : Nat} {y z : Int32} {q : Nat × Nat × List (Nat × Int32)} (hq : q_arr E a = some q) (g : (q.1 == 2 && q_lk q.2.2 j == y) = true) : E.set (a / 2) (.inl (q.1, q.2.1, .inl (bif q.1 == 0 then (j, z) :: q.2.2 else q_upz q.2.2 j y))) = E := by
  obtain ⟨-, h2⟩ := q_arr_s hq
  simp only [Bool.and_eq_true, beq_iff_eq] at g
  obtain ⟨g1, g2⟩ := g
  have h3 : (bif q.1 == 0 then (j, z) :: q.2.2 else q_upz q.2.2 j y) = q.2.2 := by
    rw [g1]
    show q_upz _ _ _ = _
    unfold q_upz
    rw [show (q_lk q.2.2 j == y) = true by simpa using g2]
    rfl
  rw [h3]
  exact q_set_same _ _ _ h2
theorem q_aald_ok (hx : p.tables.exec = Jvm.exec) (hb : c.code = cc) (hK : va_K D vwCl (q_tys cy) s) {a : Nat} {i : Int32} {q : Nat × Nat × List (Nat × Nat)} (hq : q_arrR E a = some q) (e2 : (q_rt q.1 && q_in i q.2.1) = true) (hdg : decode cc pc = .ok (.aaload, 1)) (hw : q_W D b0 (q_c (q_rho b0 ad) cy) E H) (kk : W p l e R s m args below meth c H locs cells slots Q (F0 m (pc + 1) ls (q_v (q_rho b0 ad) (va_rf (q_lr q.2.2 i.toNatClampNeg)) :: r))) : W p l e R s m args below meth c H locs cells slots Q (F0 m pc ls (.int i :: q_v (q_rho b0 ad) (.ref a) :: r)) := by
  obtain ⟨g1, g2⟩ := q_arrR_s hq
  rw [q_ref0 g1]
  rw [q_v_rf] at kk
  simp only [Bool.and_eq_true, q_rt, Bool.or_eq_true, beq_iff_eq] at e2
  obtain ⟨e2, e3⟩ := e2
  have hi := q_in_s e3
  obtain ⟨t, n, f⟩ := q
  dsimp only at *
  have hat := q_ws_at (b0 := b0) (G := q_c (q_rho b0 ad) cy) g2
  rcases e2 with rfl | rfl
  · exact va_aldq hx hb hK hw.2 (a / 2) 3 (cA := cy 3) hat rfl hi hdg kk
  · exact va_aldq hx hb hK hw.2 (a / 2) 4 (cA := cy 4) hat rfl hi hdg kk
theorem q_aast_ok (hx : p.tables.exec = Jvm.exec) (hb : c.code = cc) (hK : va_K D vwCl (q_tys cy) s) {a v ci : Nat} {i : Int32} {q : Nat × Nat × List (Nat × Nat)} {fs : List Value} (hq : q_arrR E a = some q) (hci : q_rc q.1 = some ci) (hf : q_obj E v ci = some fs) (e2 : q_in i q.2.1 = true) (hdg : decode cc pc = .ok (.aastore, 1)) (hw : q_W D b0 (q_c (q_rho b0 ad) cy) E H) (hS : va_S (fun q => b0 ≤ q) H0 H locs) (kk : ∀ (H1 : Heap) (locs1 : List Loc), q_W D b0 (q_c (q_rho b0 ad) cy) (E.set (a / 2) (.inl (q.1, q.2.1, .inr ((i.toNatClampNeg, v) :: q.2.2)))) H1 → va_S (fun q => b0 ≤ q) H0 H1 locs1 → W p l e R s m args below meth c H1 locs1 cells slots Q (F0 m (pc + 1) ls r)) : W p l e R s m args below meth c H locs cells slots Q (F0 m pc ls (q_v (q_rho b0 ad) (.ref v) :: .int i :: q_v (q_rho b0 ad) (.ref a) :: r)) := by
  obtain ⟨g1, g2⟩ := q_arrR_s hq
  obtain ⟨k1, k2⟩ := q_obj_s hf
  have hi := q_in_s e2
  have hv : q_rho b0 ad v = b0 + v / 2 := by rw [k1, q_rho0, ← k1]
  rw [q_ref0 g1, q_ref0 k1]
  obtain ⟨t, n, f⟩ := q
  dsimp only at *
  have hat := q_ws_at (b0 := b0) (G := q_c (q_rho b0 ad) cy) g2
  have hav := q_ws_at (b0 := b0) (G := q_c (q_rho b0 ad) cy) k2
  have hlt : i.toNatClampNeg < n := Nat.not_le.mp fun q => hi (Or.inr q)
  have h0 : ¬ i < 0 := fun q => hi (Or.inl q)
  have key : ∀ (C : String) (T : u_T) (N : Nat), vwCl[ci]? = some (C, T, N) → (q_tys cy)[t]? = some (cy t, .object C) → W p l e R s m args below meth c H locs cells slots Q (F0 m pc ls (.ref (b0 + v / 2) :: .int i :: .ref (b0 + a / 2) :: r)) := by
    intro C T N hc ht
    obtain ⟨r', hr', cellV, y1, y2, y3, -⟩ := hw.2 _ _ hav
    have hcls := (hK.1 ci _ hc).2
    obtain ⟨kA, comp, z1, z2, z3, -⟩ := (hK.2 t _ ht).2
    have hcomp : comp = D.1 ci := Option.some.inj (z3.symm.trans hcls.1)
    subst hcomp
    obtain ⟨kC, hkC, -⟩ := hcls.2
    refine W.aast hx hb (hw.2 _ _ hat) (fun q h => by cases h) (fun h => by cases h) z1 z2 rfl hkC ⟨h0, by show _ < (arrV _ _ _).slots.size; rw [arrV_size]; exact hlt⟩ y1 (fun q h => by rw [y3] at h; cases h) (by rw [y2]; exact hkC) (by rw [y2]; exact va_assign hcls) rfl rfl hdg fun H1 f1 f2 f3 => ?_
    refine kk H1 _ (q_W_set f2 hw (hw.2.set (q_ws_D b0 E) hat ?_ f3)) (hS.put f2 f3 (Nat.le_add_right _ _))
    show H1[b0 + a / 2]? = some (vp_cell _ _)
    rw [f1]
    refine congrArg some ?_
    rw [vp_cell_q, arrV_store]
    show arrV (cy t) n (updV (fun j => va_rf (Option.map (q_rho b0 ad) (q_lr f j))) i.toNatClampNeg (.ref (b0 + v / 2))) = arrV (cy t) n (fun j => va_rf (Option.map (q_rho b0 ad) (q_lr ((i.toNatClampNeg, v) :: f) j)))
    refine congrArg (arrV (cy t) n) (funext fun j => ?_)
    rw [q_lr_up]
    by_cases hj : j = i.toNatClampNeg
    · subst hj
      simp [updV, va_rf, hv]
    · simp [updV, hj]
  unfold q_rc at hci
  by_cases h3 : t = 3
  · rw [if_pos h3] at hci
    cases hci
    subst h3
    exact key _ _ _ rfl rfl
  · rw [if_neg h3] at hci
    by_cases h4 : t = 4
    · rw [if_pos h4] at hci
      cases hci
      subst h4
      exact key _ _ _ rfl rfl
    · rw [if_neg h4] at hci
      cases hci
end QA
section QN
variable {p : Program} {l : Launch} {e : Env} {R : Room} {s : State} {m : MethodId} {args : Array Value} {below : List Frame} {meth : Method} {c : Code} {Q : State → Prop} {H0 H : Heap} {D : va_G} {b0 : Nat} {ad : Nat → Nat} {cy : Nat → ClassId} {cc : ByteArray} {nL o : Nat} {locs : List Loc} {cells slots : Nat} {ls : Array Slot} {pc : Nat} {E : q_H} {r : List Value} {ini : Bool}
/-- a cell more -/
theorem q_W_app {G : q_E → va_E} {H1 : Heap} {x : q_E} (hw : q_W D b0 G E H) (hz : H1.size = H.size + 1) (ho : ∀ q : Nat, q < H.size → H1[q]? = H[q]?) (hx : va_at D vwCl (b0 + E.length, G x) H1) : q_W D b0 G (E ++ [x]) H1 := by
  refine ⟨by rw [hz, hw.1, List.length_append]; rfl, ?_⟩
  rw [q_ws_app]
  refine (hw.2.kept fun k q hk => ho q.1 ((hw.2 k q hk).lt)).app fun k q hk => ?_
  have hz : k < 1 := (List.getElem?_eq_some_iff.mp hk).1
  rw [show k = 0 by omega] at hk
  cases hk
  exact hx
theorem q_S_app {A : Nat → Prop} {H1 : Heap} (hS : va_S A H0 H locs) (hz : H1.size = H.size + 1) (ho : ∀ q : Nat, q < H.size → H1[q]? = H[q]?) : va_S A H0 H1 locs :=
  ⟨Nat.le_trans hS.1 (by omega), fun x h1 h2 => (ho x (Nat.lt_of_lt_of_le h1 hS.1)).trans (hS.2.1 x h1 h2), hS.2.2⟩
theorem q_ref2 (i : Nat) : q_v (q_rho b0 ad) (.ref (2 * i)) = .ref (b0 + i) := by
  show Value.ref _ = _
  rw [q_rho0]
theorem q_cls1 {cA cB : ClassId} {ty : FieldType} {n : String} (h : s.vm.findClass n = some cA) (h2 : s.vm.findClass n = some cB) : cA = cB := Option.some.inj (h.symm.trans h2)
theorem q_newa_ok (hx : p.tables.exec = Jvm.exec) (hb : c.code = cc) (hts : ∀ w ∈ q_big, w.before args s = true) (hK : va_K D vwCl (q_tys cy) s) {ty : ClassFile.ArrayType} {n : Int32} {t : Nat} (ht : q_nat ty = some t) (e2 : (decide (¬ n < 0) && decide (n.toNatClampNeg * 4 ≤ 536870912)) = true) (hc : cells + 1 ≤ R.cells) (hs : slots + n.toNatClampNeg ≤ R.slots) (hdg : decode cc pc = .ok (.newarray ty, 2)) (hw : q_W D b0 (q_c (q_rho b0 ad) cy) E H) (hS : va_S (fun q => b0 ≤ q) H0 H locs) (kk : ∀ (H1 : Heap) (locs1 : List Loc), q_W D b0 (q_c (q_rho b0 ad) cy) (E ++ [.inl (t, n.toNatClampNeg, .inl [])]) H1 → va_S (fun q => b0 ≤ q) H0 H1 locs1 → W p l e R s m args below meth c H1 locs1 (cells + 1) (slots + n.toNatClampNeg) Q (F0 m (pc + 2) ls (q_v (q_rho b0 ad) (.ref (2 * E.length)) :: r))) : W p l e R s m args below meth c H locs cells slots Q (F0 m pc ls (.int n :: r)) := by
  simp only [Bool.and_eq_true, decide_eq_true_eq] at e2
  obtain ⟨e2, e3⟩ := e2
  rw [q_ref2] at kk
  have fin : ∀ (H1 : Heap) (cA : ClassId) (ct : ClassId), cA = ct → H1[b0 + E.length]? = some (arrV cA n.toNatClampNeg (fun _ => .int 0)) → H1.size = b0 + E.length + 1 → (∀ q, q < b0 + E.length → H1[q]? = H[q]?) → va_at D vwCl (b0 + E.length, .inl (ct, n.toNatClampNeg, .inl (q_lk []))) H1 := fun H1 cA ct h1 h2 _ _ => by
    subst h1
    exact h2
  cases ty <;> first | (cases ht; done) | skip
  all_goals cases ht
  · refine va_newaK (atype := .boolean) hx hb (hts _ (q_mem q_acZ rfl)) rfl hdg rfl e2 rfl (by show _ * 1 ≤ _; omega) hc hs hw.1 fun H1 cA f1 f2 f3 f4 f5 => ?_
    have hcl : cA = cy 2 := q_cls1 (ty := .boolean) f5 (hK.2 2 _ rfl).2
    exact kk H1 locs (q_W_app hw (by rw [f2, hw.1]) (fun q hq => f3 q (by rw [← hw.1]; exact hq)) (fin H1 _ _ hcl f1 f2 f3)) (q_S_app hS (by rw [f2, hw.1]) (fun q hq => f3 q (by rw [← hw.1]; exact hq)))
  · refine va_newaK (atype := .byte) hx hb (hts _ (q_mem q_acB rfl)) rfl hdg rfl e2 rfl (by show _ * 1 ≤ _; omega) hc hs hw.1 fun H1 cA f1 f2 f3 f4 f5 => ?_
    have hcl : cA = cy 0 := q_cls1 (ty := .byte) f5 (hK.2 0 _ rfl).2
    exact kk H1 locs (q_W_app hw (by rw [f2, hw.1]) (fun q hq => f3 q (by rw [← hw.1]; exact hq)) (fin H1 _ _ hcl f1 f2 f3)) (q_S_app hS (by rw [f2, hw.1]) (fun q hq => f3 q (by rw [← hw.1]; exact hq)))
  · refine va_newaK (atype := .int) hx hb (hts _ (q_mem q_acI rfl)) rfl hdg rfl e2 rfl (by show _ * 4 ≤ _; omega) hc hs hw.1 fun H1 cA f1 f2 f3 f4 f5 => ?_
    have hcl : cA = cy 1 := q_cls1 (ty := .int) f5 (hK.2 1 _ rfl).2
    exact kk H1 locs (q_W_app hw (by rw [f2, hw.1]) (fun q hq => f3 q (by rw [← hw.1]; exact hq)) (fin H1 _ _ hcl f1 f2 f3)) (q_S_app hS (by rw [f2, hw.1]) (fun q hq => f3 q (by rw [← hw.1]; exact hq)))
theorem q_new_s {o i : Nat} {q : Nat × Nat} (h : q_new o i = some q) : q.1 < 13 ∧ q.2 = q_N q.1 ∧ Cond.classLink (q_R o) i (q_R q.1) ∈ lw_tbl := by
  unfold q_new at h
  cases hf : (q_newT o).find? (fun q => q.1 == i) with
  | none => rw [hf] at h; cases h
  | some y =>
    rw [hf] at h
    cases h
    have h1 : y.1 = i := eq_of_beq (List.find?_some (p := fun q : Nat × Nat × Nat => q.1 == i) hf)
    have h2 := q_newC o y (List.mem_of_find?_eq_some hf)
    simp only [Bool.and_eq_true, decide_eq_true_eq] at h2
    have g5 := q_lwt h2.1
    rw [h1] at g5
    exact ⟨h2.2, rfl, g5⟩
theorem q_new_ok (hx : p.tables.exec = Jvm.exec) (hb : c.code = cc) (hown : s.vm.findClass (q_R o) = some m.cls) (hts : ∀ w ∈ q_big, w.before args s = true) (hK : va_K D vwCl (q_tys cy) s) {idx : Nat} {q : Nat × Nat} (hq : q_new o idx = some q) (hc : cells + 1 ≤ R.cells) (hs : slots + q.2 ≤ R.slots) (hdg : decode cc pc = .ok (.new idx, 3)) (hw : q_W D b0 (q_c (q_rho b0 ad) cy) E H) (hS : va_S (fun q => b0 ≤ q) H0 H locs) (kk : ∀ (H1 : Heap) (locs1 : List Loc), q_W D b0 (q_c (q_rho b0 ad) cy) (E ++ [.inr (q.1, (List.range q.2).map (fun j => defaultValue (q_Ty q.1 j)))]) H1 → va_S (fun q => b0 ≤ q) H0 H1 locs1 → W p l e R s m args below meth c H1 locs1 (cells + 1) (slots + q.2) Q (F0 m (pc + 3) ls (q_v (q_rho b0 ad) (.ref (2 * E.length)) :: r))) : W p l e R s m args below meth c H locs cells slots Q (F0 m pc ls r) := by
  obtain ⟨h1, h2, h3⟩ := q_new_s hq
  rw [q_ref2] at kk
  have hcl := q_vw _ h1
  have hKn := hK.1 q.1 _ hcl
  rw [h2] at kk hs
  refine W.newcK hx hb hown (hts _ (q_mem h3 rfl)) (hts _ (q_mem (q_inst _ h1) rfl)) (hts _ (q_mem (q_init _ h1) rfl)) rfl hdg hc hs hKn.2.1 hw.1 fun H1 kC hkC f1 f2 f3 => ?_
  have hz : H1.size = H.size + 1 := by rw [f2, hw.1]
  have ho : ∀ q : Nat, q < H.size → H1[q]? = H[q]? := fun q hq => f3 q (by rw [← hw.1]; exact hq)
  refine kk H1 locs (q_W_app hw hz ho ?_) (q_S_app hS hz ho)
  refine ⟨_, hcl, (u_born (q_Ty q.1) hts (q_lay_big h1) hKn hkC f1 (q_ty_ok _ h1)).to fun j hj => ?_⟩
  show defaultValue (q_Ty q.1 j) = (List.map _ _).getD j .null
  rw [List.getD_eq_getElem?_getD, List.getElem?_map, List.getElem?_map, List.getElem?_range hj]
  show _ = q_v _ (defaultValue _)
  cases q_Ty q.1 j <;> rfl
theorem q_anew_s {o i t : Nat} (h : q_anew o i = some t) : (t = 3 ∧ Cond.classLink (q_R o) i "DocumentHouse$Index" ∈ lw_tbl) ∨ (t = 4 ∧ Cond.classLink (q_R o) i "DocumentHouse$Shelf" ∈ lw_tbl) := by
  unfold q_anew at h
  cases hf : (q_newT o).find? (fun q => q.1 == i) with
  | none => rw [hf] at h; cases h
  | some y =>
    rw [hf] at h
    have h1 : y.1 = i := eq_of_beq (List.find?_some (p := fun q : Nat × Nat × Nat => q.1 == i) hf)
    have h2 := q_newC o y (List.mem_of_find?_eq_some hf)
    simp only [Bool.and_eq_true, decide_eq_true_eq] at h2
    have g5 := q_lwt h2.1
    rw [h1] at g5
    have h3 : (if y.2.1 = 3 then some 3 else if y.2.1 = 8 then some 4 else none) = some t := h
    by_cases e3 : y.2.1 = 3
    · rw [if_pos e3] at h3
      cases h3
      rw [e3] at g5
      exact Or.inl ⟨rfl, g5⟩
    · rw [if_neg e3] at h3
      by_cases e8 : y.2.1 = 8
      · rw [if_pos e8] at h3
        cases h3
        rw [e8] at g5
        exact Or.inr ⟨rfl, g5⟩
      · rw [if_neg e8] at h3
        cases h3
theorem q_newr_ok (hx : p.tables.exec = Jvm.exec) (hb : c.code = cc) (hown : s.vm.findClass (q_R o) = some m.cls) (hts : ∀ w ∈ q_big, w.before args s = true) (hT : q_T ad s) (hK : va_K D vwCl (q_tys cy) s) {idx : Nat} {n : Int32} {t : Nat} (ht : q_anew o idx = some t) (e2 : (decide (¬ n < 0) && decide (n.toNatClampNeg * 4 ≤ 536870912)) = true) (hc : cells + 1 ≤ R.cells) (hs : slots + n.toNatClampNeg ≤ R.slots) (hdg : decode cc pc = .ok (.anewarray idx, 3)) (hw : q_W D b0 (q_c (q_rho b0 ad) cy) E H) (hS : va_S (fun q => b0 ≤ q) H0 H locs) (kk : ∀ (H1 : Heap) (locs1 : List Loc), q_W D b0 (q_c (q_rho b0 ad) cy) (E ++ [.inl (t, n.toNatClampNeg, .inr [])]) H1 → va_S (fun q => b0 ≤ q) H0 H1 locs1 → W p l e R s m args below meth c H1 locs1 (cells + 1) (slots + n.toNatClampNeg) Q (F0 m (pc + 3) ls (q_v (q_rho b0 ad) (.ref (2 * E.length)) :: r))) : W p l e R s m args below meth c H locs cells slots Q (F0 m pc ls (.int n :: r)) := by
  simp only [Bool.and_eq_true, decide_eq_true_eq] at e2
  obtain ⟨e2, e3⟩ := e2
  rw [q_ref2] at kk
  have key : ∀ (C : String), (Cond.classLink (q_R o) idx C).before args s = true → va_AO C s → (q_tys cy)[t]? = some (cy t, .object C) → W p l e R s m args below meth c H locs cells slots Q (F0 m pc ls (.int n :: r)) := by
    intro C hl ha hty
    refine W.anew hx hb hown hl (va_AO.use ha) rfl hdg rfl e2 e3 hc hs fun cA kA comp f1 f2 f3 f4 => ?_
    have hcl : cA = cy t := q_cls1 (ty := .object C) f1 (hK.2 t _ hty).2.choose_spec.choose_spec.2.2.2
    subst hcl
    generalize hH1 : H.push ({ cls := cy t, slots := Array.replicate n.toNatClampNeg .null, vm := .none } : Cell) = H1
    have z1 : H1.size = H.size + 1 := by rw [← hH1, Array.size_push]
    have o1 : ∀ q : Nat, q < H.size → H1[q]? = H[q]? := fun q hq => by rw [← hH1, Array.getElem?_push, if_neg (Nat.ne_of_lt hq)]
    have e1 : H1[H.size]? = some (arrV (cy t) n.toNatClampNeg (fun _ => .null)) := by rw [← hH1, Array.getElem?_push_size, ← arrV_new]
    rw [hw.1]
    refine kk H1 locs (q_W_app hw z1 o1 ?_) (q_S_app hS z1 o1)
    rw [hw.1] at e1
    exact e1
  rcases q_anew_s ht with ⟨rfl, h⟩ | ⟨rfl, h⟩
  · exact key _ (hts _ (q_mem h rfl)) hT.2.2.1 rfl
  · exact key _ (hts _ (q_mem h rfl)) hT.2.2.2.1 rfl
theorem q_sum_cat {F : Nat → Nat} : ∀ r : List Value, ((r.map (q_v F)).map fun v => v.category).sum = (r.map fun v => v.category).sum := by
  intro r
  induction r with
  | nil => rfl
  | cons v r ih =>
    simp only [List.map_cons, List.sum_cons, ih]
    rw [q_v_cat (F := F) (v := v) rfl]
theorem q_math_ok {F : Nat → Nat} (hx : p.tables.exec = Jvm.exec) (hb : c.code = cc) (hml : c.maxLocals = ls.size) (hown : s.vm.findClass (q_R o) = some m.cls) (hts : ∀ w ∈ q_big, w.before args s = true) {idx t : Nat} (ht : q_math o idx = some t) (hR : 3 ≤ R.frames ∧ 100 ≤ R.locals) (hc : cells ≤ R.cells) (hs : slots ≤ R.slots) {r : List Value} {x y : Int32} (h8 : (r.map fun v => v.category).sum ≤ 8) (hdg : decode cc pc = .ok (.invokestatic idx, 3)) (kk : W p l e R s m args below meth c H locs cells slots Q (F0 m (pc + 3) ls (.int (bif t == 0 then (if x < y then y else x) else (if y < x then y else x)) :: r.map (q_v F)))) : W p l e R s m args below meth c H locs cells slots Q (F0 m pc ls (.int y :: .int x :: r.map (q_v F))) := by
  unfold q_math at ht
  cases hf : (q_matT o).find? (fun q => q.1 == idx) with
  | none => rw [hf] at ht; cases ht
  | some z =>
    rw [hf] at ht
    have ht : z.2.1 = t := Option.some.inj ht
    have h1 : z.1 = idx := eq_of_beq (List.find?_some (p := fun q : Nat × Nat × Nat => q.1 == idx) hf)
    have h2 := q_matC o z (List.mem_of_find?_eq_some hf)
    simp only [Bool.and_eq_true, decide_eq_true_eq] at h2
    have g5 := q_lwt h2.1
    have g6 := h2.2
    rw [h1, ht] at g5
    rw [ht] at g6
    obtain ⟨a1, a2, a3, a4⟩ := q_mat1 t g6
    have h9 : ((r.map (q_v F)).map fun v => v.category).sum + 13 ≤ R.locals := by rw [q_sum_cat]; omega
    match t, g6 with
    | 0, _ => exact va_mmax hx hb hml hown (hts _ (q_mem g5 rfl)) (hts _ (q_mem a1 rfl)) (hts _ (q_mem a2 rfl)) (hts _ (q_mem (a3 rfl) rfl)) (by omega) h9 hc hs hdg kk
    | 1, _ => exact va_mmin hx hb hml hown (hts _ (q_mem g5 rfl)) (hts _ (q_mem a1 rfl)) (hts _ (q_mem a2 rfl)) (hts _ (q_mem (a4 rfl) rfl)) (by omega) h9 hc hs hdg kk
    | n + 2, h => exact absurd h (by omega)
theorem q_oini_ok {F : Nat → Nat} (hx : p.tables.exec = Jvm.exec) (hb : c.code = cc) (hml : c.maxLocals = ls.size) (hown : s.vm.findClass (q_R o) = some m.cls) (hts : ∀ w ∈ q_big, w.before args s = true) {idx a : Nat} (ht : q_oini o idx = true) (hR : 3 ≤ R.frames ∧ 100 ≤ R.locals) {r : List Value} (h8 : (r.map fun v => v.category).sum ≤ 8) (hdg : decode cc pc = .ok (.invokespecial idx, 3)) (kk : W p l e R s m args below meth c H locs cells slots Q (F0 m (pc + 3) ls (r.map (q_v F)))) : W p l e R s m args below meth c H locs cells slots Q (F0 m pc ls (q_v F (.ref a) :: r.map (q_v F))) := by
  unfold q_oini at ht
  cases hf : (q_oiT o).find? (fun q => q.1 == idx) with
  | none => rw [hf] at ht; cases ht
  | some z =>
    have h1 : z.1 = idx := eq_of_beq (List.find?_some (p := fun q : Nat × Nat => q.1 == idx) hf)
    have g5 := q_lwt (of_decide_eq_true (q_oiC o z (List.mem_of_find?_eq_some hf)))
    rw [h1] at g5
    have h9 : ((r.map (q_v F)).map fun v => v.category).sum + 12 ≤ R.locals := by rw [q_sum_cat]; omega
    exact W.objInit hx hb hown (hts _ (q_mem g5 rfl)) (hts _ (q_mem q_oi1.1 rfl)) (hts _ (q_mem q_oi1.2 rfl)) (g := F0 m pc ls _) rfl hml.symm rfl hdg (by omega) (by show 2 * 0 + _ + 12 ≤ _; omega) kk
end QN
section QT
variable {p : Program} {l : Launch} {e : Env} {R : Room} {s : State} {m : MethodId} {args : Array Value} {below : List Frame} {meth : Method} {c : Code} {Q : State → Prop} {H : Heap} {D : va_G} {b0 : Nat} {ad : Nat → Nat} {cy : Nat → ClassId} {cc : ByteArray} {nL o : Nat} {locs : List Loc} {cells slots : Nat} {ls : Array Slot} {pc : Nat} {E : q_H} {r : List Value} {ini : Bool}
theorem q_wCS : Cond.fieldLink "java/lang/String" 38 "java/lang/String" "COMPACT_STRINGS" "Z" ∈ lw_tbl := q_lwt (i := 675) (by decide +kernel)
theorem q_wSV : Cond.fieldLink "java/lang/String" 9 "java/lang/String" "value" "[B" ∈ lw_tbl := q_lwt (i := 2864) (by decide +kernel)
theorem q_wSC : Cond.fieldLink "java/lang/String" 15 "java/lang/String" "coder" "B" ∈ lw_tbl := q_lwt (i := 2865) (by decide +kernel)
theorem q_wK1 : Cond.methodLink "java/lang/StringLatin1" 9 yJ0_checkIndex_df160 ∈ lw_tbl := q_lwt (i := 688) (by decide +kernel)
theorem q_wK2 : Cond.static yJ0_checkIndex_df160 ∈ lw_tbl := q_lwt (i := 689) (by decide +kernel)
theorem q_wK3 : Cond.code yJ0_checkIndex_df160 cJ0_checkIndex_df160 2 none ∈ lw_tbl := q_lwt (i := 690) (by decide +kernel)
theorem q_wK4 : Cond.fieldLink "java/lang/String" 1053 "jdk/internal/util/Preconditions" "SIOOBE_FORMATTER" "Ljava/util/function/BiFunction;" ∈ lw_tbl := q_lwt (i := 691) (by decide +kernel)
theorem q_wK5 : Cond.methodLink "java/lang/String" 1059 yJ3_checkIndex_8e157 ∈ lw_tbl := q_lwt (i := 693) (by decide +kernel)
theorem q_wK6 : Cond.static yJ3_checkIndex_8e157 ∈ lw_tbl := q_lwt (i := 694) (by decide +kernel)
theorem q_wK7 : Cond.code yJ3_checkIndex_8e157 cJ3_checkIndex_8e157 3 (some .int) ∈ lw_tbl := q_lwt (i := 695) (by decide +kernel)
theorem q_wK8 : Cond.initialized "jdk/internal/util/Preconditions" ∈ lw_tbl := q_lwt (i := 18) (by decide +kernel)
theorem q_wK9 : Cond.initialized "java/lang/String" ∈ lw_tbl := q_lwt (i := 16) (by decide +kernel)
theorem q_sref {a : Nat} (h : a % 4 = 1) : q_v (q_rho b0 ad) (.ref a) = .ref (ad (2 * (a / 4))) := by
  show Value.ref _ = _
  rw [show a = 2 * (2 * (a / 4)) + 1 by omega, q_rho1, ← show a = 2 * (2 * (a / 4)) + 1 by omega]
theorem q_sref3 {a : Nat} (h : a % 4 = 3) : q_v (q_rho b0 ad) (.ref a) = .ref (ad (2 * (a / 4) + 1)) := by
  show Value.ref _ = _
  rw [show a = 2 * (2 * (a / 4) + 1) + 1 by omega, q_rho1, ← show a = 2 * (2 * (a / 4) + 1) + 1 by omega]
theorem q_cs_ok (hx : p.tables.exec = Jvm.exec) (hb : c.code = cc) (hown : s.vm.findClass (q_R o) = some m.cls) (hts : ∀ w ∈ q_big, w.before args s = true) (hF : q_SF ad b0 s s.heap) {idx : Nat} (e2 : (o == 14 && idx == 38) = true) (hdg : decode cc pc = .ok (.getstatic idx, 3)) (hS : va_S (fun q => b0 ≤ q) s.heap H locs) (kk : W p l e R s m args below meth c H locs cells slots Q (F0 m (pc + 3) ls (.int 1 :: r))) : W p l e R s m args below meth c H locs cells slots Q (F0 m pc ls r) := by
  simp only [Bool.and_eq_true, beq_iff_eq] at e2
  obtain ⟨rfl, rfl⟩ := e2
  exact va_gets hx hb hF.1 hS hown (hts _ (q_mem q_wCS rfl)) (fun _ h => h) hdg kk
theorem q_sget_ok (hx : p.tables.exec = Jvm.exec) (hb : c.code = cc) (hown : s.vm.findClass (q_R o) = some m.cls) (hts : ∀ w ∈ q_big, w.before args s = true) (hF : q_SF ad b0 s s.heap) {idx a : Nat} {v : Value} (h : q_sget o idx a = some v) (hdg : decode cc pc = .ok (.getfield idx, 3)) (hS : va_S (fun q => b0 ≤ q) s.heap H locs) (kk : W p l e R s m args below meth c H locs cells slots Q (F0 m (pc + 3) ls (q_v (q_rho b0 ad) v :: r))) : W p l e R s m args below meth c H locs cells slots Q (F0 m pc ls (q_v (q_rho b0 ad) (.ref a) :: r)) := by
  unfold q_sget at h
  have e2 := (q_if_s h).1
  have h2 := (q_if_s h).2
  clear h
  simp only [Bool.and_eq_true, beq_iff_eq, decide_eq_true_eq] at e2
  obtain ⟨⟨e3, e4⟩, e5⟩ := e2
  subst e3
  rw [q_sref e4]
  by_cases h9 : idx = 9
  · rw [if_pos h9] at h2
    cases h2
    subst h9
    have h3 : q_v (q_rho b0 ad) (.ref (a + 2)) = .ref (ad (2 * (a / 4) + 1)) := by
      rw [q_sref3 (show (a + 2) % 4 = 3 by omega), show (a + 2) / 4 = a / 4 by omega]
    rw [h3] at kk
    exact vk_getf hx hb (hF.2.2 _ e5).2.2.1 hS hown (hts _ (q_mem q_wSV rfl)) (fun _ h => h) hdg kk
  · rw [if_neg h9] at h2
    by_cases h15 : idx = 15
    · rw [if_pos h15] at h2
      cases h2
      subst h15
      exact vk_getf hx hb (hF.2.2 _ e5).2.1 hS hown (hts _ (q_mem q_wSC rfl)) (fun _ h => h) hdg kk
    · rw [if_neg h15] at h2
      cases h2
theorem q_sl_s {a n : Nat} (h : q_sl a = some n) : a % 4 = 3 ∧ a / 4 < q_nS ∧ n = (q_sb (a / 4)).length := by
  unfold q_sl at h
  have e2 := (q_if_s h).1
  have h2 := (q_if_s h).2
  clear h
  simp only [Bool.and_eq_true, beq_iff_eq, decide_eq_true_eq] at e2
  exact ⟨e2.1, e2.2, (Option.some.inj h2).symm⟩
theorem q_slen_ok (hx : p.tables.exec = Jvm.exec) (hb : c.code = cc) (hF : q_SF ad b0 s s.heap) {a n : Nat} (h : q_sl a = some n) (hdg : decode cc pc = .ok (.arraylength, 1)) (hS : va_S (fun q => b0 ≤ q) s.heap H locs) (kk : W p l e R s m args below meth c H locs cells slots Q (F0 m (pc + 1) ls (.int (Int32.ofNat n) :: r))) : W p l e R s m args below meth c H locs cells slots Q (F0 m pc ls (q_v (q_rho b0 ad) (.ref a) :: r)) := by
  obtain ⟨h1, h2, rfl⟩ := q_sl_s h
  rw [q_sref3 h1]
  exact va_tlen hx hb (hF.2.2 _ h2).2.2.2 hS rfl hdg kk
theorem q_sbyte_ok (hx : p.tables.exec = Jvm.exec) (hb : c.code = cc) (hF : q_SF ad b0 s s.heap) {a n : Nat} {i : Int32} (h : q_sl a = some n) (hin : q_in i n = true) (hdg : decode cc pc = .ok (.baload, 1)) (hS : va_S (fun q => b0 ≤ q) s.heap H locs) (kk : W p l e R s m args below meth c H locs cells slots Q (F0 m (pc + 1) ls (.int ((q_sb (a / 4)).getD i.toNatClampNeg 0) :: r))) : W p l e R s m args below meth c H locs cells slots Q (F0 m pc ls (.int i :: q_v (q_rho b0 ad) (.ref a) :: r)) := by
  obtain ⟨h1, h2, rfl⟩ := q_sl_s h
  rw [q_sref3 h1]
  exact va_tb hx hb (hF.2.2 _ h2).2.2.2 hS (q_in_s hin) rfl hdg kk
set_option maxRecDepth 20000 in
theorem q_pck (l : Launch) (i n : Int32) (v : Value) (hv : v = .null ∨ ∃ a, v = .ref a) (h1 : ¬ i < 0) (h2 : i < n) : Met l yJ3_checkIndex_8e157 (.code yJ3_checkIndex_8e157 cJ3_checkIndex_8e157 3 (some .int) :: q_big) { frames := 0, cells := 0, slots := 0, locals := 0 } (va_Pc [.int i, .int n, v] (fun _ => True)) (vp_Si (fun r => r = i)) 0 0 (fun _ => False) := by
  refine Met.ofW (cc := cJ3_checkIndex_8e157) (maxL := 3) (ret := some .int) (by decide) rfl ?_
  intro p e s m args below meth c s₁ B hml hv2
  obtain ⟨rfl, -⟩ := hv2
  have hx := B.exec
  have hb := B.bytes
  have hr := B.returns
  have hlocks := B.notSynchronized
  have d0 : decode cJ3_checkIndex_8e157 0 = .ok (.iload_n 0, 1) := by decide +kernel
  have d1 : decode cJ3_checkIndex_8e157 1 = .ok (.ifCond .lt 8, 3) := by decide +kernel
  have d4 : decode cJ3_checkIndex_8e157 4 = .ok (.iload_n 0, 1) := by decide +kernel
  have d5 : decode cJ3_checkIndex_8e157 5 = .ok (.iload_n 1, 1) := by decide +kernel
  have d6 : decode cJ3_checkIndex_8e157 6 = .ok (.if_icmp .lt 10, 3) := by decide +kernel
  have d16 : decode cJ3_checkIndex_8e157 16 = .ok (.iload_n 0, 1) := by decide +kernel
  have d17 : decode cJ3_checkIndex_8e157 17 = .ok (.ireturn, 1) := by decide +kernel
  have hl0 : lv_has ((lg_sl [.int i, .int n, v] ++ List.replicate (3 - (lg_sl [.int i, .int n, v]).length) Slot.unset).toArray) 3 [(0, .int i), (1, .int n), (2, v)] := by
    have := lv_entry ([.int i, .int n, v]) (n := 3) (by rcases hv with rfl | ⟨a, rfl⟩ <;> exact Nat.le_of_ble_eq_true rfl)
    exact this
  rw [lg_entry_eq]
  generalize (lg_sl [.int i, .int n, v] ++ List.replicate (3 - (lg_sl [.int i, .int n, v]).length) Slot.unset).toArray = ls at hl0 ⊢
  refine lv_iload_n hx hb d0 rfl (lv_at hl0 0 rfl) ?_
  refine lv_if_lt (tgt := 9) hx hb d1 (by decide) (fun h => absurd h h1) (fun _ => ?_)
  refine lv_iload_n hx hb d4 rfl (lv_at hl0 0 rfl) ?_
  refine lv_iload_n hx hb d5 rfl (lv_at hl0 1 rfl) ?_
  refine lv_icmp_lt (tgt := 16) hx hb d6 (by decide) (fun _ => ?_) (fun h => absurd h2 h)
  refine lv_iload_n hx hb d16 rfl (lv_at hl0 0 rfl) ?_
  exact W.iret hx hb hr (fun t ht _ => ⟨i, rfl, rfl, by rw [ht]⟩) (fun q h => by cases h) d17 hlocks
set_option maxRecDepth 20000 in
theorem q_ck (l : Launch) (b0 : Nat) (ad : Nat → Nat) (i n : Int32) (h1 : ¬ i < 0) (h2 : i < n) : Met l yJ0_checkIndex_df160 (.code yJ0_checkIndex_df160 cJ0_checkIndex_df160 2 none :: q_big) { frames := 1, cells := 0, slots := 0, locals := 30 } (va_Pc [.int i, .int n] (fun U => q_SF ad b0 U U.heap)) (va_Sv (fun _ => True)) 0 0 (fun _ => False) := by
  refine Met.ofW (cc := cJ0_checkIndex_df160) (maxL := 2) (ret := none) (by decide) rfl ?_
  intro p e s m args below meth c s₁ B hml hv2
  obtain ⟨rfl, hF⟩ := hv2
  have hx := B.exec
  have hb := B.bytes
  have hr := B.returns
  have hlocks := B.notSynchronized
  have hts := atoms_spec (ws := .code yJ0_checkIndex_df160 cJ0_checkIndex_df160 2 none :: q_big) B.pre
  have htb : ∀ w ∈ q_big, w.before #[.int i, .int n] s = true := fun w h => hts w (List.mem_cons_of_mem _ h)
  have hown : s.vm.findClass "java/lang/String" = some m.cls := findClass_of_methodNamed B.named
  have d0 : decode cJ0_checkIndex_df160 0 = .ok (.iload_n 0, 1) := by decide +kernel
  have d1 : decode cJ0_checkIndex_df160 1 = .ok (.iload_n 1, 1) := by decide +kernel
  have d2 : decode cJ0_checkIndex_df160 2 = .ok (.getstatic 1053, 3) := by decide +kernel
  have d5 : decode cJ0_checkIndex_df160 5 = .ok (.invokestatic 1059, 3) := by decide +kernel
  have d8 : decode cJ0_checkIndex_df160 8 = .ok (.pop, 1) := by decide +kernel
  have d9 : decode cJ0_checkIndex_df160 9 = .ok (.return_, 1) := by decide +kernel
  have hl0 : lv_has ((lg_sl [.int i, .int n] ++ List.replicate (2 - (lg_sl [.int i, .int n]).length) Slot.unset).toArray) 2 [(0, .int i), (1, .int n)] := lv_entry ([.int i, .int n]) (n := 2) (Nat.le_of_ble_eq_true rfl)
  rw [lg_entry_eq]
  generalize (lg_sl [.int i, .int n] ++ List.replicate (2 - (lg_sl [.int i, .int n]).length) Slot.unset).toArray = ls at hl0 ⊢
  refine lv_iload_n hx hb d0 rfl (lv_at hl0 0 rfl) ?_
  refine lv_iload_n hx hb d1 rfl (lv_at hl0 1 rfl) ?_
  have hS : va_S (fun q => b0 ≤ q) s.heap s.heap [] := va_S.rf
  have rest : ∀ v : Value, (v = .null ∨ ∃ a, v = .ref a) → W p l e (headSpec (.code yJ0_checkIndex_df160 cJ0_checkIndex_df160 2 none :: q_big) { frames := 1, cells := 0, slots := 0, locals := 30 }).room s m #[.int i, .int n] below meth c s.heap [] 0 0 (MQ below (va_Sv (fun _ => True)) #[.int i, .int n] s 0 0 (fun _ => False)) (F0 m 5 ls [v, .int n, .int i]) := by
    intro v hv
    have hG : GoodIn (.code yJ0_checkIndex_df160 cJ0_checkIndex_df160 2 none :: q_big) (.code yJ3_checkIndex_8e157 cJ3_checkIndex_8e157 3 (some .int) :: q_big) := by
      intro w hw
      rcases List.mem_cons.mp hw with rfl | hw
      · exact ⟨List.mem_cons_of_mem _ (q_mem q_wK7 rfl), good_of_word rfl⟩
      · exact ⟨List.mem_cons_of_mem _ hw, good_of_word (List.mem_filter.mp hw).2⟩
    have hr2 := va_runS (p := p) (l := l) (e := e) (R := { frames := 1, cells := 0, slots := 0, locals := 30 }) (s := s) (m := m) (args := #[.int i, .int n]) (below := below) (meth := meth) (c := c) (H := s.heap) (locs := []) (cells := 0) (slots := 0) (g := F0 m 5 ls [v, .int n, .int i]) (As := [.int i, .int n, v]) (rest := []) (own := "java/lang/String") (index := 1059) ⟨hx, hb, hml, hown, hts⟩ (q_pck l i n v hv h1 h2) ⟨callB_of 3 hts hG rfl rfl rfl (htb _ (q_mem q_wK8 rfl)) (htb _ (q_mem q_wK5 rfl)) ⟨by decide +kernel, by decide +kernel, by decide +kernel⟩ ⟨Nat.le_of_ble_eq_true rfl, Nat.le_of_ble_eq_true rfl⟩, htb _ (q_mem q_wK6 rfl)⟩ ⟨fun a U g mk h => h, fun U hU hW => ⟨rfl, trivial⟩⟩ rfl rfl hl0.1 rfl (Nat.le_of_ble_eq_true rfl) d5 ⟨Nat.le_refl _, Nat.le_refl _⟩
    intro T hT X
    obtain ⟨w, st₀, t, T', L, g0, X', hL, g1, g2, ⟨r, g3, g4, g5⟩, st⟩ := hr2 T hT X
    cases g3
    have hL0 : L = [] := by
      cases L with
      | nil => rfl
      | cons q L => exact absurd (hL q List.mem_cons_self) (fun h => h)
    subst hL0
    have hT' : T'.heap = s.heap := by rw [g1, g5, g0]
    have fin : W p l e { frames := 1, cells := 0, slots := 0, locals := 30 } s m #[.int i, .int n] below meth c s.heap [] 0 0 (MQ below (va_Sv (fun _ => True)) #[.int i, .int n] s 0 0 (fun _ => False)) (F0 m 8 ls [.int r]) := by
      refine lv_pop hx hb d8 rfl ?_
      exact W.vret hx hb hr (fun t ht _ => ⟨rfl, trivial, by rw [ht]⟩) (fun q h => by cases h) d9 hlocks
    obtain ⟨t2, a1, b1⟩ := fin T' hT' X'
    exact ⟨t2, st t2 a1, b1⟩
  rcases hF.2.1 with hz | ⟨t, hz⟩
  · exact va_gets hx hb hz hS hown (htb _ (q_mem q_wK4 rfl)) (fun _ h => h) d2 (rest _ (Or.inl rfl))
  · exact va_gets hx hb hz hS hown (htb _ (q_mem q_wK4 rfl)) (fun _ h => h) d2 (rest _ (Or.inr ⟨_, rfl⟩))
theorem q_ck_ok (hx : p.tables.exec = Jvm.exec) (hb : c.code = cc) (hml : c.maxLocals = nL) (hown : s.vm.findClass (q_R o) = some m.cls) {y0 : Cond} (hts : ∀ w ∈ q_big, w.before args s = true) (hF : q_SF ad b0 s s.heap) {idx : Nat} {i n : Int32} (e1 : (o == 15 && idx == 9) = true) (e2 : (decide (¬ i < 0) && decide (i < n) && decide ((r.map fun v => v.category).sum ≤ 8)) = true) (hR : 3 ≤ R.frames ∧ 100 ≤ R.locals) (hc : cells ≤ R.cells) (hs : slots ≤ R.slots) (hls : ls.size = nL) (hdg : decode cc pc = .ok (.invokestatic idx, 3)) (hS : va_S (fun q => b0 ≤ q) s.heap H locs) (kk : W p l e R s m args below meth c H locs cells slots Q (F0 m (pc + 3) ls (r.map (q_v (q_rho b0 ad))))) : W p l e R s m args below meth c H locs cells slots Q (F0 m pc ls (.int n :: .int i :: r.map (q_v (q_rho b0 ad)))) := by
  simp only [Bool.and_eq_true, beq_iff_eq] at e1
  obtain ⟨rfl, rfl⟩ := e1
  simp only [Bool.and_eq_true, decide_eq_true_eq] at e2
  obtain ⟨⟨h1, h2⟩, h8⟩ := e2
  have hG : GoodIn q_big (.code yJ0_checkIndex_df160 cJ0_checkIndex_df160 2 none :: q_big) := by
    intro w hw
    rcases List.mem_cons.mp hw with rfl | hw
    · exact ⟨q_mem q_wK3 rfl, good_of_word rfl⟩
    · exact ⟨hw, good_of_word (List.mem_filter.mp hw).2⟩
  have hr2 := va_runS (p := p) (l := l) (e := e) (R := R) (s := s) (m := m) (args := args) (below := below) (meth := meth) (c := c) (H := H) (locs := locs) (cells := cells) (slots := slots) (g := F0 m pc ls (.int n :: .int i :: r.map (q_v (q_rho b0 ad)))) (As := [.int i, .int n]) (rest := r.map (q_v (q_rho b0 ad))) (own := q_R 15) (index := 9) ⟨hx, hb, hml, hown, hts⟩ (q_ck l b0 ad i n h1 h2) ⟨callB_of 2 hts hG rfl rfl rfl (hts _ (q_mem q_wK9 rfl)) (hts _ (q_mem q_wK1 rfl)) ⟨by decide +kernel, by decide +kernel, by decide +kernel⟩ ⟨by show 1 + 1 ≤ _; omega, by show 8 + (2 + 11) + 30 ≤ _; omega⟩, hts _ (q_mem q_wK2 rfl)⟩ ⟨fun a U g mk h => ⟨h.1, q_SF.moved (u := U) (U := U.calling g mk a) (Vm.Alike.refl U.vm) h.2⟩, fun U hU hW => ⟨rfl, by show q_SF ad b0 U U.heap; rw [hU]; exact (hF.kept hS.2.1).moved hW.alike⟩⟩ rfl rfl hls rfl (by rw [q_sum_cat]; show 2 * 0 + _ ≤ 8; omega) hdg ⟨hc, hs⟩
  intro T hT X
  obtain ⟨w, st₀, t, T', L, g0, X', hL, g1, g2, ⟨g3, g4, g5⟩, st⟩ := hr2 T hT X
  cases g3
  have hL0 : L = [] := by
    cases L with
    | nil => rfl
    | cons q L => exact absurd (hL q List.mem_cons_self) (fun h => h)
  subst hL0
  rw [List.append_nil] at X'
  obtain ⟨t2, a1, b1⟩ := kk T' (by rw [g1, g5, g0]) X'
  exact ⟨t2, st t2 a1, b1⟩
end QT
/-! new T[n][k] -/
theorem q_outer (c : ClassId) (N h0 : Nat) : ∀ i : Nat, Jvm.Free.Multi.outerC c N h0 i = arrV c N (fun j => va_rf (if j < i then some (h0 + 1 + j) else none))
  | 0 => by
    show ({ cls := c, slots := Array.replicate N .null, vm := .none } : Cell) = _
    rw [arrV_new]
    refine congrArg (arrV c N) (funext fun j => ?_)
    simp [va_rf]
  | i + 1 => by
    show (Jvm.Free.Multi.outerC c N h0 i).setSlot i (.ref (h0 + 1 + i)) = _
    rw [q_outer c N h0 i, arrV_store]
    refine congrArg (arrV c N) (funext fun j => ?_)
    by_cases e : j = i
    · subst e
      simp [updV, va_rf]
    · by_cases h : j < i
      · simp [updV, e, h, Nat.lt_succ_of_lt h]
      · simp [updV, e, h, show ¬ j < i + 1 by omega]
def q_mna (o idx : Nat) : Bool := (o == 9 && idx == 64) || (o == 0 && idx == 24)
theorem q_wM1 : Cond.classLink (q_R 9) 64 ("[" ++ (FieldType.array .int).toString) ∈ lw_tbl := q_lwt (i := 216) (by decide +kernel)
theorem q_wM2 : Cond.classLink (q_R 0) 24 ("[" ++ (FieldType.array .int).toString) ∈ lw_tbl := q_lwt (i := 287) (by decide +kernel)
section QM
variable {p : Program} {l : Launch} {e : Env} {R : Room} {s : State} {m : MethodId} {args : Array Value} {below : List Frame} {meth : Method} {c : Code} {Q : State → Prop} {H0 H : Heap} {D : va_G} {b0 : Nat} {ad : Nat → Nat} {cy : Nat → ClassId} {cc : ByteArray} {nL o : Nat} {locs : List Loc} {cells slots : Nat} {ls : Array Slot} {pc : Nat} {E : q_H} {r : List Value} {ini : Bool}
def q_grid (E : q_H) (N K : Nat) : q_H := .inl (5, N, .inr ((List.range N).map (fun j => (j, 2 * (E.length + 1 + j))))) :: List.replicate N (.inl (1, K, .inl []))
theorem q_mna_ok (hx : p.tables.exec = Jvm.exec) (hb : c.code = cc) (hown : s.vm.findClass (q_R o) = some m.cls) (hts : ∀ w ∈ q_big, w.before args s = true) (hT : q_T ad s) (hK : va_K D vwCl (q_tys cy) s) {idx : Nat} {n k : Int32} (hm : q_mna o idx = true) (e2 : (decide (¬ n < 0) && decide (¬ k < 0) && decide (n.toNatClampNeg * 4 ≤ 536870912) && decide (k.toNatClampNeg * 4 ≤ 536870912)) = true) (hc : cells + (1 + n.toNatClampNeg) ≤ R.cells) (hs : slots + (n.toNatClampNeg + n.toNatClampNeg * k.toNatClampNeg) ≤ R.slots) (hdg : decode cc pc = .ok (.multianewarray idx 2, 4)) (hw : q_W D b0 (q_c (q_rho b0 ad) cy) E H) (hS : va_S (fun q => b0 ≤ q) H0 H locs) (kk : ∀ (H1 : Heap) (locs1 : List Loc), q_W D b0 (q_c (q_rho b0 ad) cy) (E ++ q_grid E n.toNatClampNeg k.toNatClampNeg) H1 → va_S (fun q => b0 ≤ q) H0 H1 locs1 → W p l e R s m args below meth c H1 locs1 (cells + (1 + n.toNatClampNeg)) (slots + (n.toNatClampNeg + n.toNatClampNeg * k.toNatClampNeg)) Q (F0 m (pc + 4) ls (q_v (q_rho b0 ad) (.ref (2 * E.length)) :: r))) : W p l e R s m args below meth c H locs cells slots Q (F0 m pc ls (.int k :: .int n :: r)) := by
  simp only [Bool.and_eq_true, decide_eq_true_eq] at e2
  obtain ⟨⟨⟨hn, hk⟩, hb1⟩, hb2⟩ := e2
  rw [q_ref2] at kk
  have hcl : (Cond.classLink (q_R o) idx ("[" ++ (FieldType.array .int).toString)).before args s = true := by
    unfold q_mna at hm
    simp only [Bool.or_eq_true, Bool.and_eq_true, beq_iff_eq] at hm
    rcases hm with ⟨rfl, rfl⟩ | ⟨rfl, rfl⟩
    · exact hts _ (q_mem q_wM1 rfl)
    · exact hts _ (q_mem q_wM2 rfl)
  have hover : (Cond.arrayOver (.array .int)).before args s = true := hT.2.2.2.2
  intro T hT2 Xs
  obtain ⟨vm₁, cA, comp, -, fA, fC, -, -, X', step⟩ := Xs.multianewarray2F hx hown hcl hover (hts _ (q_mem q_acI rfl)) (g := F0 m pc ls (.int k :: .int n :: r)) rfl (by rw [hb]; exact hdg) rfl hn hk hb1 (by show _ * 4 ≤ _; exact hb2) (by omega) rfl rfl hc hs
  have ec1 : cA = cy 5 := q_cls1 (ty := .int) fA (hK.2 5 _ rfl).2
  have ec2 : comp = cy 1 := q_cls1 (ty := .int) fC (hK.2 1 _ rfl).2
  subst ec1
  subst ec2
  have hTh : (T.setVm vm₁).heap = H := hT2
  generalize hF : Jvm.Free.Multi.fill (T.setVm vm₁) (cy 5) (cy 1) n.toNatClampNeg k.toNatClampNeg (defaultValue .int) n.toNatClampNeg = F at X' step
  obtain ⟨f1, f2, -, -⟩ := Jvm.Free.Multi.fill_facts (T.setVm vm₁) (cy 5) (cy 1) n.toNatClampNeg k.toNatClampNeg (defaultValue .int) n.toNatClampNeg
  rw [hF, hTh] at f1 f2
  have hold : ∀ x : Nat, x < H.size → F.heap[x]? = H[x]? := fun x hx => by
    have := Jvm.Free.Multi.fill_old (T.setVm vm₁) (cy 5) (cy 1) n.toNatClampNeg k.toNatClampNeg (defaultValue .int) (a := x) (by rw [hTh]; exact hx) n.toNatClampNeg
    rw [hF, hTh] at this
    exact this
  have hrow : ∀ j : Nat, j < n.toNatClampNeg → F.heap[H.size + 1 + j]? = some (Jvm.Free.Multi.innerC (cy 1) k.toNatClampNeg (defaultValue .int)) := fun j hj => by
    have := Jvm.Free.Multi.fill_inner (T.setVm vm₁) (cy 5) (cy 1) n.toNatClampNeg k.toNatClampNeg (defaultValue .int) n.toNatClampNeg j hj
    rw [hF, hTh] at this
    exact this
  have hW1 : q_W D b0 (q_c (q_rho b0 ad) cy) (E ++ q_grid E n.toNatClampNeg k.toNatClampNeg) F.heap := by
    refine ⟨?_, ?_⟩
    · rw [f1, hw.1, List.length_append]
      unfold q_grid
      rw [List.length_cons, List.length_replicate]
      omega
    · rw [q_ws_apps]
      refine (hw.2.kept fun j q hj => hold q.1 ((hw.2 j q hj).lt)).app fun j q hj => ?_
      rw [q_ws_get] at hj
      cases j with
      | zero =>
        cases hj
        show F.heap[b0 + E.length + 0]? = some (vp_cell (cy 5) _)
        rw [Nat.add_zero, ← hw.1, f2, q_outer]
        show some (arrV (cy 5) n.toNatClampNeg (fun j => va_rf (if j < n.toNatClampNeg then some (H.size + 1 + j) else none))) = some (arrV (cy 5) n.toNatClampNeg (fun j => va_rf (Option.map (q_rho b0 ad) (q_lr ((List.range n.toNatClampNeg).map (fun j => (j, 2 * (E.length + 1 + j)))) j))))
        refine congrArg some (congrArg (arrV (cy 5) n.toNatClampNeg) (funext fun i => ?_))
        rw [q_lr_range]
        by_cases hi : i < n.toNatClampNeg
        · rw [if_pos hi]
          rw [if_pos hi]
          show va_rf (some _) = va_rf (some (q_rho b0 ad _))
          rw [q_rho0, hw.1]
          congr 2
          omega
        · rw [if_neg hi]
          rw [if_neg hi]
          rfl
      | succ j =>
        unfold q_grid at hj
        rw [List.getElem?_cons_succ] at hj
        by_cases hj2 : j < n.toNatClampNeg
        · rw [List.getElem?_replicate, if_pos hj2] at hj
          cases hj
          show F.heap[b0 + E.length + (j + 1)]? = some (vp_cell (cy 1) _)
          rw [show b0 + E.length + (j + 1) = H.size + 1 + j by rw [hw.1]; omega, hrow j hj2, vp_cell_i]
          refine congrArg some ?_
          show ({ cls := cy 1, slots := Array.replicate k.toNatClampNeg (.int 0), vm := .none } : Cell) = _
          rw [arrV_new]
          rfl
        · rw [List.getElem?_replicate, if_neg hj2] at hj
          cases hj
  have hS1 : va_S (fun q => b0 ≤ q) H0 F.heap locs := ⟨Nat.le_trans hS.1 (by rw [f1]; omega), fun x h1 h2 => (hold x (Nat.lt_of_lt_of_le h1 hS.1)).trans (hS.2.1 x h1 h2), hS.2.2⟩
  rw [show cells + 1 + n.toNatClampNeg = cells + (1 + n.toNatClampNeg) by omega, show slots + n.toNatClampNeg + n.toNatClampNeg * k.toNatClampNeg = slots + (n.toNatClampNeg + n.toNatClampNeg * k.toNatClampNeg) by omega] at X'
  have hk2 := kk F.heap locs hW1 hS1
  rw [← hw.1, ← hT2] at hk2
  obtain ⟨t, a1, b1⟩ := hk2 F rfl X'
  exact ⟨t, step t a1, b1⟩
end QM
end
section
def q_step (o nL : Nat) (ini : Bool) (ins : Instr) (len pc : Nat) (lv : q_L) (st : List Value) (E : q_H) : Option (Nat × q_L × List Value × q_H × Nat × Nat) := match ins with
  | .aconst_null => q_if (len == 1) (some (pc + 1, lv, .null :: st, E, 0, 0))
  | .iconst n => q_if (len == 1) (some (pc + 1, lv, .int (Int32.ofInt n) :: st, E, 0, 0))
  | .bipush n => q_if (len == 2) (some (pc + 2, lv, .int (Int8.ofInt n).toInt32 :: st, E, 0, 0))
  | .sipush n => q_if (len == 3) (some (pc + 3, lv, .int (Int16.ofInt n).toInt32 :: st, E, 0, 0))
  | .ldc idx => q_if (len == 2) ((q_ldc o idx).bind fun v => some (pc + 2, lv, v :: st, E, 0, 0))
  | .ldc_w idx => q_if (len == 3) ((q_ldc o idx).bind fun v => some (pc + 3, lv, v :: st, E, 0, 0))
  | .iload_n k => q_if (len == 1) ((q_geti lv k.val).bind fun x => some (pc + 1, lv, .int x :: st, E, 0, 0))
  | .iload k => q_if (len == 2) ((q_geti lv k).bind fun x => some (pc + 2, lv, .int x :: st, E, 0, 0))
  | .aload_n k => q_if (len == 1) ((q_geta lv k.val).bind fun v => some (pc + 1, lv, v :: st, E, 0, 0))
  | .aload k => q_if (len == 2) ((q_geta lv k).bind fun v => some (pc + 2, lv, v :: st, E, 0, 0))
  | .istore_n k => q_if (len == 1) (q_if (decide (k.val < nL)) (q_p1 st fun x r => q_fc (q_set lv k.val (.int x)) fun lv1 => some (pc + 1, lv1, r, E, 0, 0)))
  | .istore k => q_if (len == 2) (q_if (decide (k < nL)) (q_p1 st fun x r => q_fc (q_set lv k (.int x)) fun lv1 => some (pc + 2, lv1, r, E, 0, 0)))
  | .astore_n k => q_if (len == 1) (q_if (decide (k.val < nL)) (q_pa st fun v r => q_fc (q_set lv k.val v) fun lv1 => some (pc + 1, lv1, r, E, 0, 0)))
  | .astore k => q_if (len == 2) (q_if (decide (k < nL)) (q_pa st fun v r => q_fc (q_set lv k v) fun lv1 => some (pc + 2, lv1, r, E, 0, 0)))
  | .iinc i n => q_if (len == 3) (q_if (decide (i < nL)) ((q_geti lv i).bind fun x => q_fc (q_set lv i (.int (x + Int32.ofInt n))) fun lv1 => some (pc + 3, lv1, st, E, 0, 0)))
  | .iadd => q_if (len == 1) (q_p2 st fun x y r => some (pc + 1, lv, .int (x + y) :: r, E, 0, 0))
  | .isub => q_if (len == 1) (q_p2 st fun x y r => some (pc + 1, lv, .int (x - y) :: r, E, 0, 0))
  | .imul => q_if (len == 1) (q_p2 st fun x y r => some (pc + 1, lv, .int (x * y) :: r, E, 0, 0))
  | .iand => q_if (len == 1) (q_p2 st fun x y r => some (pc + 1, lv, .int (x &&& y) :: r, E, 0, 0))
  | .ior => q_if (len == 1) (q_p2 st fun x y r => some (pc + 1, lv, .int (x ||| y) :: r, E, 0, 0))
  | .ixor => q_if (len == 1) (q_p2 st fun x y r => some (pc + 1, lv, .int (x ^^^ y) :: r, E, 0, 0))
  | .ishl => q_if (len == 1) (q_p2 st fun x y r => some (pc + 1, lv, .int (x <<< (y &&& 31)) :: r, E, 0, 0))
  | .ishr => q_if (len == 1) (q_p2 st fun x y r => some (pc + 1, lv, .int (x >>> (y &&& 31)) :: r, E, 0, 0))
  | .irem => q_if (len == 1) (q_p2 st fun x y r => q_if (!(y == 0)) (some (pc + 1, lv, .int (x - x / y * y) :: r, E, 0, 0)))
  | .idiv => q_if (len == 1) (q_p2 st fun x y r => q_if (!(y == 0)) (some (pc + 1, lv, .int (x / y) :: r, E, 0, 0)))
  | .i2b => q_if (len == 1) (q_p1 st fun x r => some (pc + 1, lv, .int x.toInt8.toInt32 :: r, E, 0, 0))
  | .dup => q_if (len == 1) (q_t1 st fun v r => some (pc + 1, lv, v :: v :: r, E, 0, 0))
  | .pop => q_if (len == 1) (q_t1 st fun v r => some (pc + 1, lv, r, E, 0, 0))
  | .dup_x1 => q_if (len == 1) (q_t1 st fun v r => q_t1 r fun w r => some (pc + 1, lv, v :: w :: v :: r, E, 0, 0))
  | .goto off => q_if (len == 3) ((q_tg pc off).bind fun t => some (t, lv, st, E, 0, 0))
  | .ifCond cd off => q_if (len == 3) (q_p1 st fun x r => (q_tg pc off).bind fun t => some (bif q_c1 cd x then t else pc + 3, lv, r, E, 0, 0))
  | .if_icmp cd off => q_if (len == 3) (q_p2 st fun x y r => (q_tg pc off).bind fun t => some (bif q_c2 cd x y then t else pc + 3, lv, r, E, 0, 0))
  | .tableswitch d lo hi offs => q_p1 st fun x r => bif (decide (x.toInt < lo) || decide (hi < x.toInt)) then ((q_tg pc d).bind fun t => some (t, lv, r, E, 0, 0)) else ((offs[(x.toInt - lo).toNat]?).bind fun off => (q_tg pc off).bind fun t => some (t, lv, r, E, 0, 0))
  | .getstatic idx => q_if (len == 3) (q_if (o == 14 && idx == 38) (some (pc + 3, lv, .int 1 :: st, E, 0, 0)))
  | .i2c => q_if (len == 1) (q_p1 st fun x r => some (pc + 1, lv, .int (x.toUInt32 % 65536).toInt32 :: r, E, 0, 0))
  | .getfield idx => q_if (len == 3) (q_pr st fun a r => q_el ((q_sget o idx a).bind fun v => some (pc + 3, lv, v :: r, E, 0, 0)) ((q_fld o idx).bind fun q => (q_obj E a q.1).bind fun fs => (fs[q.2.1]?).bind fun v => some (pc + 3, lv, v :: r, E, 0, 0)))
  | .putfield idx => q_if (len == 3) (q_pv st fun v a r => (q_fld o idx).bind fun q => (q_obj E a q.1).bind fun fs => q_if (q_fit (q_Ty q.1 q.2.1) v && q_fin o ini q.1 q.2.1 q.2.2 && decide (q.2.1 < fs.length)) (q_fc (fs.set q.2.1 v) fun fs1 => q_fc (E.set (a / 2) (.inr (q.1, fs1))) fun E1 => some (pc + 3, lv, r, E1, 0, 0)))
  | .arraylength => q_if (len == 1) (q_pr st fun a r => q_el ((q_sl a).bind fun n => some (pc + 1, lv, .int (Int32.ofNat n) :: r, E, 0, 0)) ((q_alen E a).bind fun n => some (pc + 1, lv, .int (Int32.ofNat n) :: r, E, 0, 0)))
  | .baload => q_if (len == 1) (q_pir st fun i a r => q_el ((q_sl a).bind fun n => q_if (q_in i n) (some (pc + 1, lv, .int ((q_sb (a / 4)).getD i.toNatClampNeg 0) :: r, E, 0, 0))) ((q_arr E a).bind fun q => q_if ((q.1 == 0 || q.1 == 2) && q_in i q.2.1) (some (pc + 1, lv, .int (q_lk q.2.2 i.toNatClampNeg) :: r, E, 0, 0))))
  | .iaload => q_if (len == 1) (q_pir st fun i a r => (q_arr E a).bind fun q => q_if (q.1 == 1 && q_in i q.2.1) (some (pc + 1, lv, .int (q_lk q.2.2 i.toNatClampNeg) :: r, E, 0, 0)))
  | .bastore => q_if (len == 1) (q_piir st fun x i a r => (q_arr E a).bind fun q => q_if ((q.1 == 0 || q.1 == 2) && q_in i q.2.1) (bif (q.1 == 2 && q_lk q.2.2 i.toNatClampNeg == (x &&& 1)) then some (pc + 1, lv, r, E, 0, 0) else q_fc (E.set (a / 2) (.inl (q.1, q.2.1, .inl (q_nf i.toNatClampNeg fun j => bif q.1 == 0 then (j, x.toInt8.toInt32) :: q.2.2 else q_upz q.2.2 j (x &&& 1))))) fun E1 => some (pc + 1, lv, r, E1, 0, 0)))
  | .iastore => q_if (len == 1) (q_piir st fun x i a r => (q_arr E a).bind fun q => q_if (q.1 == 1 && q_in i q.2.1) (q_fc (E.set (a / 2) (.inl (q.1, q.2.1, .inl (q_nf i.toNatClampNeg fun j => (j, x) :: q.2.2)))) fun E1 => some (pc + 1, lv, r, E1, 0, 0)))
  | .aaload => q_if (len == 1) (q_pir st fun i a r => (q_arrR E a).bind fun q => q_if (q_rt q.1 && q_in i q.2.1) (some (pc + 1, lv, va_rf (q_lr q.2.2 i.toNatClampNeg) :: r, E, 0, 0)))
  | .aastore => q_if (len == 1) (q_prir st fun v i a r => (q_arrR E a).bind fun q => (q_rc q.1).bind fun ci => (q_obj E v ci).bind fun fs => q_if (q_in i q.2.1) (q_fc (E.set (a / 2) (.inl (q.1, q.2.1, .inr (q_nf i.toNatClampNeg fun j => (j, v) :: q.2.2)))) fun E1 => some (pc + 1, lv, r, E1, 0, 0)))
  | .newarray ty => q_if (len == 2) (q_p1 st fun n r => (q_nat ty).bind fun t => q_if (decide (¬ n < 0) && decide (n.toNatClampNeg * 4 ≤ 536870912)) (q_fc (E ++ [.inl (t, n.toNatClampNeg, .inl [])]) fun E1 => q_nf (2 * E.length) fun a => some (pc + 2, lv, .ref a :: r, E1, 1, n.toNatClampNeg)))
  | .anewarray idx => q_if (len == 3) (q_p1 st fun n r => (q_anew o idx).bind fun t => q_if (decide (¬ n < 0) && decide (n.toNatClampNeg * 4 ≤ 536870912)) (q_fc (E ++ [.inl (t, n.toNatClampNeg, .inr [])]) fun E1 => q_nf (2 * E.length) fun a => some (pc + 3, lv, .ref a :: r, E1, 1, n.toNatClampNeg)))
  | .new idx => q_if (len == 3) ((q_new o idx).bind fun q => q_fc ((List.range q.2).map (fun j => defaultValue (q_Ty q.1 j))) fun fs1 => q_fc (E ++ [.inr (q.1, fs1)]) fun E1 => q_nf (2 * E.length) fun a => some (pc + 3, lv, .ref a :: st, E1, 1, q.2))
  | .multianewarray idx dd => q_if (len == 4 && dd == 2 && q_mna o idx) (q_p2 st fun n k r => q_if (decide (¬ n < 0) && decide (¬ k < 0) && decide (n.toNatClampNeg * 4 ≤ 536870912) && decide (k.toNatClampNeg * 4 ≤ 536870912)) (q_fc (E ++ q_grid E n.toNatClampNeg k.toNatClampNeg) fun E1 => q_nf (2 * E.length) fun a => some (pc + 4, lv, .ref a :: r, E1, 1 + n.toNatClampNeg, n.toNatClampNeg + n.toNatClampNeg * k.toNatClampNeg)))
  | .invokestatic idx => q_if (len == 3) (q_el (q_if (o == 15 && idx == 9) (q_p2 st fun i n r => q_if (decide (¬ i < 0) && decide (i < n) && decide ((r.map fun v => v.category).sum ≤ 8)) (some (pc + 3, lv, r, E, 0, 0)))) ((q_math o idx).bind fun t => q_p2 st fun x y r => q_if (decide ((r.map fun v => v.category).sum ≤ 8)) (some (pc + 3, lv, .int (bif t == 0 then (if x < y then y else x) else (if y < x then y else x)) :: r, E, 0, 0))))
  | .invokespecial idx => q_if (len == 3) (q_if (q_oini o idx) (q_pr st fun a r => q_if (decide ((r.map fun v => v.category).sum ≤ 8)) (some (pc + 3, lv, r, E, 0, 0))))
  | _ => none
section QS
variable {p : Program} {l : Launch} {e : Env} {R : Room} {s : State} {m : MethodId} {args : Array Value} {below : List Frame} {meth : Method} {c : Code} {Q : State → Prop} {H0 : Heap} {D : va_G} {b0 : Nat} {ad : Nat → Nat} {cy : Nat → ClassId} {cc : ByteArray} {nL o : Nat} {ini : Bool}
set_option maxHeartbeats 4000000 in
set_option maxRecDepth 20000 in
theorem q_step_ok (hx : p.tables.exec = Jvm.exec) (hb : c.code = cc) (hml : c.maxLocals = nL) (hown : s.vm.findClass (q_R o) = some m.cls) (hts : ∀ w ∈ q_big, w.before args s = true) (hT : q_T ad s) (hK : va_K D vwCl (q_tys cy) s) (hR : 3 ≤ R.frames ∧ 100 ≤ R.locals) (hF : q_SF ad b0 s s.heap) (hH : H0 = s.heap) (hini : ini = true → meth.name = "<init>") {ins : Instr} {len pc : Nat} {lv lv' : q_L} {st st' : List Value} {E E' : q_H} {pc' dc ds cells slots : Nat} (hle : b0 ≤ H0.size) (hdg : decode cc pc = .ok (ins, len)) (h : q_step o nL ini ins len pc lv st E = some (pc', lv', st', E', dc, ds)) (hc : cells + dc ≤ R.cells) (hs : slots + ds ≤ R.slots) (kk : q_G p l e R s m args below meth c Q H0 D b0 ad cy nL pc' lv' st' E' (cells + dc) (slots + ds)) : q_G p l e R s m args below meth c Q H0 D b0 ad cy nL pc lv st E cells slots := by
  subst hH
  unfold q_step at h
  split at h
  · have e1 := eq_of_beq (q_if_s h).1
    replace h := (q_if_s h).2
    subst e1
    cases h
    exact fun ls H locs hl hw hS => lv_null hx hb hdg (kk ls H locs hl hw hS)
  · have e1 := eq_of_beq (q_if_s h).1
    replace h := (q_if_s h).2
    subst e1
    cases h
    exact fun ls H locs hl hw hS => lv_iconst hx hb hdg rfl (kk ls H locs hl hw hS)
  · have e1 := eq_of_beq (q_if_s h).1
    replace h := (q_if_s h).2
    subst e1
    cases h
    exact fun ls H locs hl hw hS => lv_bipush hx hb hdg rfl (kk ls H locs hl hw hS)
  · have e1 := eq_of_beq (q_if_s h).1
    replace h := (q_if_s h).2
    subst e1
    cases h
    exact fun ls H locs hl hw hS => lv_sipush hx hb hdg rfl (kk ls H locs hl hw hS)
  · have e1 := eq_of_beq (q_if_s h).1
    replace h := (q_if_s h).2
    subst e1
    obtain ⟨v, hv, h⟩ := q_bind_s h
    cases h
    exact fun ls H locs hl hw hS => q_ldc_ok (F := q_rho b0 ad) hx hb hown hts hT rfl hdg hv (kk ls H locs hl hw hS)
  · have e1 := eq_of_beq (q_if_s h).1
    replace h := (q_if_s h).2
    subst e1
    obtain ⟨v, hv, h⟩ := q_bind_s h
    cases h
    exact fun ls H locs hl hw hS => q_ldcW_ok (F := q_rho b0 ad) hx hb hown hts hT rfl hdg hv (kk ls H locs hl hw hS)
  · have e1 := eq_of_beq (q_if_s h).1
    replace h := (q_if_s h).2
    subst e1
    obtain ⟨x, hv, h⟩ := q_bind_s h
    cases h
    exact fun ls H locs hl hw hS => lv_iload_n hx hb hdg rfl (q_geti_s hv hl) (kk ls H locs hl hw hS)
  · have e1 := eq_of_beq (q_if_s h).1
    replace h := (q_if_s h).2
    subst e1
    obtain ⟨x, hv, h⟩ := q_bind_s h
    cases h
    exact fun ls H locs hl hw hS => lv_iload hx hb hdg (q_geti_s hv hl) (kk ls H locs hl hw hS)
  · have e1 := eq_of_beq (q_if_s h).1
    replace h := (q_if_s h).2
    subst e1
    obtain ⟨v, hv, h⟩ := q_bind_s h
    cases h
    intro ls H locs hl hw hS
    rcases q_geta_s hv hl with ⟨rfl, g⟩ | ⟨a, rfl, g⟩
    · exact lv_aload_nN hx hb hdg rfl g (kk ls H locs hl hw hS)
    · exact lv_aload_n hx hb hdg rfl g (kk ls H locs hl hw hS)
  · have e1 := eq_of_beq (q_if_s h).1
    replace h := (q_if_s h).2
    subst e1
    obtain ⟨v, hv, h⟩ := q_bind_s h
    cases h
    intro ls H locs hl hw hS
    rcases q_geta_s hv hl with ⟨rfl, g⟩ | ⟨a, rfl, g⟩
    · exact lv_aloadN hx hb hdg g (kk ls H locs hl hw hS)
    · exact lv_aload hx hb hdg g (kk ls H locs hl hw hS)
  · have e1 := eq_of_beq (q_if_s h).1
    replace h := (q_if_s h).2
    subst e1
    obtain ⟨e2, h⟩ := q_if_s h
    obtain ⟨x, r, rfl, h⟩ := q_p1_s h
    simp only [q_fc_eq, q_nf_eq] at h
    cases h
    exact fun ls H locs hl hw hS => lv_istore_n hx hb hdg rfl hl (of_decide_eq_true e2) (q_set_ml (q_rho b0 ad) lv _ (.int x)).symm (fun ls hl => kk ls H locs hl hw hS)
  · have e1 := eq_of_beq (q_if_s h).1
    replace h := (q_if_s h).2
    subst e1
    obtain ⟨e2, h⟩ := q_if_s h
    obtain ⟨x, r, rfl, h⟩ := q_p1_s h
    simp only [q_fc_eq, q_nf_eq] at h
    cases h
    exact fun ls H locs hl hw hS => lv_istore hx hb hdg hl (of_decide_eq_true e2) (q_set_ml (q_rho b0 ad) lv _ (.int x)).symm (fun ls hl => kk ls H locs hl hw hS)
  · have e1 := eq_of_beq (q_if_s h).1
    replace h := (q_if_s h).2
    subst e1
    obtain ⟨e2, h⟩ := q_if_s h
    obtain ⟨v, r, rfl, hv, h⟩ := q_pa_s h
    simp only [q_fc_eq, q_nf_eq] at h
    cases h
    intro ls H locs hl hw hS
    rcases hv with rfl | ⟨a, rfl⟩
    · exact lv_astore_nN hx hb hdg rfl hl (of_decide_eq_true e2) (q_set_ml (q_rho b0 ad) lv _ .null).symm (fun ls hl => kk ls H locs hl hw hS)
    · exact lv_astore_n hx hb hdg rfl hl (of_decide_eq_true e2) (q_set_ml (q_rho b0 ad) lv _ (.ref a)).symm (fun ls hl => kk ls H locs hl hw hS)
  · have e1 := eq_of_beq (q_if_s h).1
    replace h := (q_if_s h).2
    subst e1
    obtain ⟨e2, h⟩ := q_if_s h
    obtain ⟨v, r, rfl, hv, h⟩ := q_pa_s h
    simp only [q_fc_eq, q_nf_eq] at h
    cases h
    intro ls H locs hl hw hS
    rcases hv with rfl | ⟨a, rfl⟩
    · exact lv_astoreN hx hb hdg hl (of_decide_eq_true e2) (q_set_ml (q_rho b0 ad) lv _ .null).symm (fun ls hl => kk ls H locs hl hw hS)
    · exact lv_astore hx hb hdg hl (of_decide_eq_true e2) (q_set_ml (q_rho b0 ad) lv _ (.ref a)).symm (fun ls hl => kk ls H locs hl hw hS)
  · rename_i i n
    have e1 := eq_of_beq (q_if_s h).1
    replace h := (q_if_s h).2
    subst e1
    obtain ⟨e2, h⟩ := q_if_s h
    obtain ⟨x, hv, h⟩ := q_bind_s h
    simp only [q_fc_eq, q_nf_eq] at h
    cases h
    intro ls H locs hl hw hS
    obtain ⟨k, hk⟩ := q_geti_k hv
    exact lv_iinc hx hb hdg hl (k := k) (q_ml_get hk) rfl (of_decide_eq_true e2) (q_set_ml (q_rho b0 ad) lv i (.int (x + Int32.ofInt n))).symm (fun ls hl => kk ls H locs hl hw hS)
  · have e1 := eq_of_beq (q_if_s h).1
    replace h := (q_if_s h).2
    subst e1
    obtain ⟨x, y, r, rfl, h⟩ := q_p2_s h
    cases h
    exact fun ls H locs hl hw hS => lv_iadd hx hb hdg (kk ls H locs hl hw hS)
  · have e1 := eq_of_beq (q_if_s h).1
    replace h := (q_if_s h).2
    subst e1
    obtain ⟨x, y, r, rfl, h⟩ := q_p2_s h
    cases h
    exact fun ls H locs hl hw hS => lv_isub hx hb hdg (kk ls H locs hl hw hS)
  · have e1 := eq_of_beq (q_if_s h).1
    replace h := (q_if_s h).2
    subst e1
    obtain ⟨x, y, r, rfl, h⟩ := q_p2_s h
    cases h
    exact fun ls H locs hl hw hS => lv_imul hx hb hdg (kk ls H locs hl hw hS)
  · have e1 := eq_of_beq (q_if_s h).1
    replace h := (q_if_s h).2
    subst e1
    obtain ⟨x, y, r, rfl, h⟩ := q_p2_s h
    cases h
    exact fun ls H locs hl hw hS => lv_iand hx hb hdg (kk ls H locs hl hw hS)
  · have e1 := eq_of_beq (q_if_s h).1
    replace h := (q_if_s h).2
    subst e1
    obtain ⟨x, y, r, rfl, h⟩ := q_p2_s h
    cases h
    exact fun ls H locs hl hw hS => lv_ior hx hb hdg (kk ls H locs hl hw hS)
  · have e1 := eq_of_beq (q_if_s h).1
    replace h := (q_if_s h).2
    subst e1
    obtain ⟨x, y, r, rfl, h⟩ := q_p2_s h
    cases h
    exact fun ls H locs hl hw hS => lv_ixor hx hb hdg (kk ls H locs hl hw hS)
  · have e1 := eq_of_beq (q_if_s h).1
    replace h := (q_if_s h).2
    subst e1
    obtain ⟨x, y, r, rfl, h⟩ := q_p2_s h
    cases h
    exact fun ls H locs hl hw hS => lv_ishl hx hb hdg (kk ls H locs hl hw hS)
  · have e1 := eq_of_beq (q_if_s h).1
    replace h := (q_if_s h).2
    subst e1
    obtain ⟨x, y, r, rfl, h⟩ := q_p2_s h
    cases h
    exact fun ls H locs hl hw hS => lv_ishr hx hb hdg (kk ls H locs hl hw hS)
  · have e1 := eq_of_beq (q_if_s h).1
    replace h := (q_if_s h).2
    subst e1
    obtain ⟨x, y, r, rfl, h⟩ := q_p2_s h
    obtain ⟨e2, h⟩ := q_if_s h
    cases h
    exact fun ls H locs hl hw hS => lv_irem hx hb hdg (by simpa using e2) (kk ls H locs hl hw hS)
  · have e1 := eq_of_beq (q_if_s h).1
    replace h := (q_if_s h).2
    subst e1
    obtain ⟨x, y, r, rfl, h⟩ := q_p2_s h
    obtain ⟨e2, h⟩ := q_if_s h
    cases h
    exact fun ls H locs hl hw hS => lv_idiv hx hb hdg (by simpa using e2) (kk ls H locs hl hw hS)
  · have e1 := eq_of_beq (q_if_s h).1
    replace h := (q_if_s h).2
    subst e1
    obtain ⟨x, r, rfl, h⟩ := q_p1_s h
    cases h
    exact fun ls H locs hl hw hS => lv_i2b hx hb hdg rfl (kk ls H locs hl hw hS)
  · have e1 := eq_of_beq (q_if_s h).1
    replace h := (q_if_s h).2
    subst e1
    obtain ⟨v, r, rfl, hv, h⟩ := q_t1_s h
    cases h
    exact fun ls H locs hl hw hS => lv_dup hx hb hdg (q_v_cat hv) (kk ls H locs hl hw hS)
  · have e1 := eq_of_beq (q_if_s h).1
    replace h := (q_if_s h).2
    subst e1
    obtain ⟨v, r, rfl, hv, h⟩ := q_t1_s h
    cases h
    exact fun ls H locs hl hw hS => lv_pop hx hb hdg (q_v_cat hv) (kk ls H locs hl hw hS)
  · have e1 := eq_of_beq (q_if_s h).1
    replace h := (q_if_s h).2
    subst e1
    obtain ⟨v, r, rfl, hv, h⟩ := q_t1_s h
    obtain ⟨w, r, rfl, hw2, h⟩ := q_t1_s h
    cases h
    exact fun ls H locs hl hw hS => lv_dup_x1 hx hb hdg (q_v_cat hv) (q_v_cat hw2) (kk ls H locs hl hw hS)
  · have e1 := eq_of_beq (q_if_s h).1
    replace h := (q_if_s h).2
    subst e1
    obtain ⟨t, ht, h⟩ := q_bind_s h
    cases h
    exact fun ls H locs hl hw hS => lv_goto hx hb hdg (q_tg_s ht) (kk ls H locs hl hw hS)
  · rename_i cd off
    have e1 := eq_of_beq (q_if_s h).1
    replace h := (q_if_s h).2
    subst e1
    obtain ⟨x, r, rfl, h⟩ := q_p1_s h
    obtain ⟨t, ht, h⟩ := q_bind_s h
    cases h
    intro ls H locs hl hw hS
    cases cd
    · refine lv_if_eq hx hb hdg (q_tg_s ht) (fun g => ?_) (fun g => ?_)
      · have e3 : q_c1 .eq x = true := by simpa [q_c1] using g
        rw [e3] at kk
        exact kk ls H locs hl hw hS
      · have e3 : q_c1 .eq x = false := by simpa [q_c1] using g
        rw [e3] at kk
        exact kk ls H locs hl hw hS
    · refine lv_if_ne hx hb hdg (q_tg_s ht) (fun g => ?_) (fun g => ?_)
      · have e3 : q_c1 .ne x = true := by simpa [q_c1] using g
        rw [e3] at kk
        exact kk ls H locs hl hw hS
      · have e3 : q_c1 .ne x = false := by simpa [q_c1] using g
        rw [e3] at kk
        exact kk ls H locs hl hw hS
    · refine lv_if_lt hx hb hdg (q_tg_s ht) (fun g => ?_) (fun g => ?_)
      · have e3 : q_c1 .lt x = true := by simpa [q_c1] using g
        rw [e3] at kk
        exact kk ls H locs hl hw hS
      · have e3 : q_c1 .lt x = false := by simpa [q_c1] using g
        rw [e3] at kk
        exact kk ls H locs hl hw hS
    · refine lv_if_ge hx hb hdg (q_tg_s ht) (fun g => ?_) (fun g => ?_)
      · have e3 : q_c1 .ge x = true := by simpa [q_c1] using g
        rw [e3] at kk
        exact kk ls H locs hl hw hS
      · have e3 : q_c1 .ge x = false := by simpa [q_c1] using g
        rw [e3] at kk
        exact kk ls H locs hl hw hS
    · refine lv_if_gt hx hb hdg (q_tg_s ht) (fun g => ?_) (fun g => ?_)
      · have e3 : q_c1 .gt x = true := by simpa [q_c1] using g
        rw [e3] at kk
        exact kk ls H locs hl hw hS
      · have e3 : q_c1 .gt x = false := by simpa [q_c1] using g
        rw [e3] at kk
        exact kk ls H locs hl hw hS
    · refine lv_if_le hx hb hdg (q_tg_s ht) (fun g => ?_) (fun g => ?_)
      · have e3 : q_c1 .le x = true := by simpa [q_c1] using g
        rw [e3] at kk
        exact kk ls H locs hl hw hS
      · have e3 : q_c1 .le x = false := by simpa [q_c1] using g
        rw [e3] at kk
        exact kk ls H locs hl hw hS
  · rename_i cd off
    have e1 := eq_of_beq (q_if_s h).1
    replace h := (q_if_s h).2
    subst e1
    obtain ⟨x, y, r, rfl, h⟩ := q_p2_s h
    obtain ⟨t, ht, h⟩ := q_bind_s h
    cases h
    intro ls H locs hl hw hS
    cases cd
    · refine lv_icmp_eq hx hb hdg (q_tg_s ht) (fun g => ?_) (fun g => ?_)
      · have e3 : q_c2 .eq x y = true := by simpa [q_c2] using g
        rw [e3] at kk
        exact kk ls H locs hl hw hS
      · have e3 : q_c2 .eq x y = false := by simpa [q_c2] using g
        rw [e3] at kk
        exact kk ls H locs hl hw hS
    · refine lv_icmp_ne hx hb hdg (q_tg_s ht) (fun g => ?_) (fun g => ?_)
      · have e3 : q_c2 .ne x y = true := by simpa [q_c2] using g
        rw [e3] at kk
        exact kk ls H locs hl hw hS
      · have e3 : q_c2 .ne x y = false := by simpa [q_c2] using g
        rw [e3] at kk
        exact kk ls H locs hl hw hS
    · refine lv_icmp_lt hx hb hdg (q_tg_s ht) (fun g => ?_) (fun g => ?_)
      · have e3 : q_c2 .lt x y = true := by simpa [q_c2] using g
        rw [e3] at kk
        exact kk ls H locs hl hw hS
      · have e3 : q_c2 .lt x y = false := by simpa [q_c2] using g
        rw [e3] at kk
        exact kk ls H locs hl hw hS
    · refine lv_icmp_ge hx hb hdg (q_tg_s ht) (fun g => ?_) (fun g => ?_)
      · have e3 : q_c2 .ge x y = true := by simpa [q_c2] using g
        rw [e3] at kk
        exact kk ls H locs hl hw hS
      · have e3 : q_c2 .ge x y = false := by simpa [q_c2] using g
        rw [e3] at kk
        exact kk ls H locs hl hw hS
    · refine lv_icmp_gt hx hb hdg (q_tg_s ht) (fun g => ?_) (fun g => ?_)
      · have e3 : q_c2 .gt x y = true := by simpa [q_c2] using g
        rw [e3] at kk
        exact kk ls H locs hl hw hS
      · have e3 : q_c2 .gt x y = false := by simpa [q_c2] using g
        rw [e3] at kk
        exact kk ls H locs hl hw hS
    · refine lv_icmp_le hx hb hdg (q_tg_s ht) (fun g => ?_) (fun g => ?_)
      · have e3 : q_c2 .le x y = true := by simpa [q_c2] using g
        rw [e3] at kk
        exact kk ls H locs hl hw hS
      · have e3 : q_c2 .le x y = false := by simpa [q_c2] using g
        rw [e3] at kk
        exact kk ls H locs hl hw hS
  · rename_i d lo hi offs
    obtain ⟨x, r, rfl, h2⟩ := q_p1_s h
    by_cases g : x.toInt < lo ∨ hi < x.toInt
    · rw [show (decide (x.toInt < lo) || decide (hi < x.toInt)) = true by simpa using g] at h2
      obtain ⟨t, ht, h⟩ := q_bind_s (show _ = some _ from h2)
      cases h
      exact fun ls H locs hl hw hS => lv_tableOut hx hb hdg g (q_tg_s ht) (kk ls H locs hl hw hS)
    · rw [show (decide (x.toInt < lo) || decide (hi < x.toInt)) = false by simpa [not_or] using g] at h2
      obtain ⟨off, ho, h⟩ := q_bind_s (show _ = some _ from h2)
      obtain ⟨t, ht, h⟩ := q_bind_s h
      cases h
      exact fun ls H locs hl hw hS => lv_tableIn hx hb hdg (fun q => g (Or.inl q)) (fun q => g (Or.inr q)) ho (q_tg_s ht) (kk ls H locs hl hw hS)
  · have e1 := eq_of_beq (q_if_s h).1
    replace h := (q_if_s h).2
    subst e1
    have e2 := (q_if_s h).1
    replace h := (q_if_s h).2
    cases h
    exact fun ls H locs hl hw hS => q_cs_ok hx hb hown hts hF e2 hdg hS (kk ls H locs hl hw hS)
  · have e1 := eq_of_beq (q_if_s h).1
    replace h := (q_if_s h).2
    subst e1
    obtain ⟨x, r, rfl, h⟩ := q_p1_s h
    cases h
    exact fun ls H locs hl hw hS => lv_i2c hx hb hdg rfl (kk ls H locs hl hw hS)
  · have e1 := eq_of_beq (q_if_s h).1
    replace h := (q_if_s h).2
    subst e1
    obtain ⟨a, r, rfl, h⟩ := q_pr_s h
    rcases q_el_s h with h | h
    · obtain ⟨v, hv, h⟩ := q_bind_s h
      cases h
      exact fun ls H locs hl hw hS => q_sget_ok hx hb hown hts hF hv hdg hS (kk ls H locs hl hw hS)
    obtain ⟨q, hq, h⟩ := q_bind_s h
    obtain ⟨fs, hf, h⟩ := q_bind_s h
    obtain ⟨v, hv, h⟩ := q_bind_s h
    cases h
    exact fun ls H locs hl hw hS => q_get_ok hx hb hown hts hT hK hq hf hv hdg hw (kk ls H locs hl hw hS)
  · have e1 := eq_of_beq (q_if_s h).1
    replace h := (q_if_s h).2
    subst e1
    obtain ⟨v, a, r, rfl, h⟩ := q_pv_s h
    obtain ⟨q, hq, h⟩ := q_bind_s h
    obtain ⟨fs, hf, h⟩ := q_bind_s h
    obtain ⟨e2, h⟩ := q_if_s h
    simp only [q_fc_eq, q_nf_eq] at h
    cases h
    exact fun ls H locs hl hw hS => q_put_ok hx hb hown hts hT hK hini hq hf e2 hdg hw hS (fun H locs hw hS => kk ls H locs hl hw hS)
  · have e1 := eq_of_beq (q_if_s h).1
    replace h := (q_if_s h).2
    subst e1
    obtain ⟨a, r, rfl, h⟩ := q_pr_s h
    rcases q_el_s h with h | h
    · obtain ⟨v, hv, h⟩ := q_bind_s h
      cases h
      exact fun ls H locs hl hw hS => q_slen_ok hx hb hF hv hdg hS (kk ls H locs hl hw hS)
    obtain ⟨n, hn, h⟩ := q_bind_s h
    cases h
    exact fun ls H locs hl hw hS => q_alen_ok hx hb hK hn hdg hw (kk ls H locs hl hw hS)
  · have e1 := eq_of_beq (q_if_s h).1
    replace h := (q_if_s h).2
    subst e1
    obtain ⟨i, a, r, rfl, h⟩ := q_pir_s h
    rcases q_el_s h with h | h
    · obtain ⟨v, hv, h⟩ := q_bind_s h
      have e4 := (q_if_s h).1
      replace h := (q_if_s h).2
      cases h
      exact fun ls H locs hl hw hS => q_sbyte_ok hx hb hF hv e4 hdg hS (kk ls H locs hl hw hS)
    obtain ⟨q, hq, h⟩ := q_bind_s h
    obtain ⟨e2, h⟩ := q_if_s h
    cases h
    exact fun ls H locs hl hw hS => q_bald_ok hx hb hK hq e2 hdg hw (kk ls H locs hl hw hS)
  · have e1 := eq_of_beq (q_if_s h).1
    replace h := (q_if_s h).2
    subst e1
    obtain ⟨i, a, r, rfl, h⟩ := q_pir_s h
    obtain ⟨q, hq, h⟩ := q_bind_s h
    obtain ⟨e2, h⟩ := q_if_s h
    cases h
    exact fun ls H locs hl hw hS => q_iald_ok hx hb hK hq e2 hdg hw (kk ls H locs hl hw hS)
  · have e1 := eq_of_beq (q_if_s h).1
    replace h := (q_if_s h).2
    subst e1
    obtain ⟨x, i, a, r, rfl, h⟩ := q_piir_s h
    obtain ⟨q, hq, h⟩ := q_bind_s h
    obtain ⟨e2, h⟩ := q_if_s h
    by_cases g : (q.1 == 2 && q_lk q.2.2 i.toNatClampNeg == (x &&& 1)) = true
    · rw [g] at h
      have h3 := Option.some.inj (show some _ = some _ from h)
      cases h3
      exact fun ls H locs hl hw hS => q_bast_ok hx hb hK hq e2 hdg hw hS (fun H locs hw hS => kk ls H locs hl (by rw [q_bast_same hq g] at hw; exact hw) hS)
    rw [show (q.1 == 2 && q_lk q.2.2 i.toNatClampNeg == (x &&& 1)) = false by simpa using g] at h
    replace h : _ = some _ := (show q_fc _ _ = some _ from h)
    simp only [q_fc_eq, q_nf_eq] at h
    cases h
    exact fun ls H locs hl hw hS => q_bast_ok hx hb hK hq e2 hdg hw hS (fun H locs hw hS => kk ls H locs hl hw hS)
  · have e1 := eq_of_beq (q_if_s h).1
    replace h := (q_if_s h).2
    subst e1
    obtain ⟨x, i, a, r, rfl, h⟩ := q_piir_s h
    obtain ⟨q, hq, h⟩ := q_bind_s h
    obtain ⟨e2, h⟩ := q_if_s h
    simp only [q_fc_eq, q_nf_eq] at h
    cases h
    exact fun ls H locs hl hw hS => q_iast_ok hx hb hK hq e2 hdg hw hS (fun H locs hw hS => kk ls H locs hl hw hS)
  · have e1 := eq_of_beq (q_if_s h).1
    replace h := (q_if_s h).2
    subst e1
    obtain ⟨i, a, r, rfl, h⟩ := q_pir_s h
    obtain ⟨q, hq, h⟩ := q_bind_s h
    obtain ⟨e2, h⟩ := q_if_s h
    cases h
    exact fun ls H locs hl hw hS => q_aald_ok hx hb hK hq e2 hdg hw (kk ls H locs hl hw hS)
  · have e1 := eq_of_beq (q_if_s h).1
    replace h := (q_if_s h).2
    subst e1
    obtain ⟨v, i, a, r, rfl, h⟩ := q_prir_s h
    obtain ⟨q, hq, h⟩ := q_bind_s h
    obtain ⟨ci, hci, h⟩ := q_bind_s h
    obtain ⟨fs, hf, h⟩ := q_bind_s h
    obtain ⟨e2, h⟩ := q_if_s h
    simp only [q_fc_eq, q_nf_eq] at h
    cases h
    exact fun ls H locs hl hw hS => q_aast_ok hx hb hK hq hci hf e2 hdg hw hS (fun H locs hw hS => kk ls H locs hl hw hS)
  · have e1 := eq_of_beq (q_if_s h).1
    replace h := (q_if_s h).2
    subst e1
    obtain ⟨n, r, rfl, h⟩ := q_p1_s h
    obtain ⟨t, ht, h⟩ := q_bind_s h
    obtain ⟨e2, h⟩ := q_if_s h
    simp only [q_fc_eq, q_nf_eq] at h
    cases h
    exact fun ls H locs hl hw hS => q_newa_ok hx hb hts hK ht e2 hc hs hdg hw hS (fun H locs hw hS => kk ls H locs hl hw hS)
  · have e1 := eq_of_beq (q_if_s h).1
    replace h := (q_if_s h).2
    subst e1
    obtain ⟨n, r, rfl, h⟩ := q_p1_s h
    obtain ⟨t, ht, h⟩ := q_bind_s h
    obtain ⟨e2, h⟩ := q_if_s h
    simp only [q_fc_eq, q_nf_eq] at h
    cases h
    exact fun ls H locs hl hw hS => q_newr_ok hx hb hown hts hT hK ht e2 hc hs hdg hw hS (fun H locs hw hS => kk ls H locs hl hw hS)
  · have e1 := eq_of_beq (q_if_s h).1
    replace h := (q_if_s h).2
    subst e1
    obtain ⟨q, hq, h⟩ := q_bind_s h
    simp only [q_fc_eq, q_nf_eq] at h
    cases h
    exact fun ls H locs hl hw hS => q_new_ok hx hb hown hts hK hq hc hs hdg hw hS (fun H locs hw hS => kk ls H locs hl hw hS)
  · have e1 := (q_if_s h).1
    replace h := (q_if_s h).2
    simp only [Bool.and_eq_true, beq_iff_eq] at e1
    obtain ⟨⟨e0, e4⟩, e3⟩ := e1
    subst e0
    subst e4
    obtain ⟨n, k, r, rfl, h⟩ := q_p2_s h
    have e2 := (q_if_s h).1
    replace h := (q_if_s h).2
    simp only [q_fc_eq, q_nf_eq] at h
    cases h
    exact fun ls H locs hl hw hS => q_mna_ok hx hb hown hts hT hK e3 e2 hc hs hdg hw hS (fun H locs hw hS => kk ls H locs hl hw hS)
  · have e1 := eq_of_beq (q_if_s h).1
    replace h := (q_if_s h).2
    subst e1
    rcases q_el_s h with h | h
    · have e4 := (q_if_s h).1
      replace h := (q_if_s h).2
      obtain ⟨i, n, r, rfl, h⟩ := q_p2_s h
      have e5 := (q_if_s h).1
      replace h := (q_if_s h).2
      cases h
      exact fun ls H locs hl hw hS => q_ck_ok (y0 := .tt) hx hb hml hown hts hF e4 e5 hR hc hs hl.1 hdg hS (kk ls H locs hl hw hS)
    obtain ⟨t, ht, h⟩ := q_bind_s h
    obtain ⟨x, y, r, rfl, h⟩ := q_p2_s h
    have e2 := (q_if_s h).1
    replace h := (q_if_s h).2
    cases h
    exact fun ls H locs hl hw hS => q_math_ok (F := q_rho b0 ad) hx hb (hml.trans hl.1.symm) hown hts ht hR hc hs (of_decide_eq_true e2) hdg (kk ls H locs hl hw hS)
  · have e1 := eq_of_beq (q_if_s h).1
    replace h := (q_if_s h).2
    subst e1
    obtain ⟨e2, h⟩ := q_if_s h
    obtain ⟨a, r, rfl, h⟩ := q_pr_s h
    obtain ⟨e3, h⟩ := q_if_s h
    cases h
    exact fun ls H locs hl hw hS => q_oini_ok (F := q_rho b0 ad) hx hb (hml.trans hl.1.symm) hown hts e2 hR (of_decide_eq_true e3) hdg (kk ls H locs hl hw hS)
  · cases h
end QS
end
section
def q_y (y : Nat) : MethodName := match y with
  | 0 => yX0_init
  | 1 => yX1_init
  | 2 => yX2_init
  | 3 => yX3_init
  | 4 => yX4_init
  | 5 => yX5_init
  | 6 => yX6_init
  | 7 => yX7_init
  | 8 => yX8_init
  | 9 => yX9_init
  | 10 => yX10_init
  | 11 => yX11_init
  | 12 => yX12_init
  | 13 => yX12_dropTree
  | 14 => yX12_newNode
  | 15 => yX12_setSize
  | 16 => yX11_feed
  | 17 => yX11_putOnTape
  | 18 => yX11_ask
  | 19 => yX11_tellFault
  | 20 => yX11_fail
  | 21 => yX11_answer
  | 22 => yX11_state
  | 23 => yX11_number
  | 24 => yX11_size
  | 25 => yX11_byteAt
  | 26 => yX11_standsOn
  | 27 => yX8_indexCount
  | 28 => yX4_start
  | 29 => yX4_open
  | 30 => yX4_put4
  | 31 => yX4_put
  | 32 => yX4_close
  | 33 => yX4_patch
  | 34 => yX4_named
  | 35 => yX4_head
  | 36 => yX6_reads
  | 37 => yX6_document
  | 38 => yX6_fails
  | 39 => yX7_whole4
  | 40 => yX12_feed
  | 41 => yX12_ask
  | 42 => yX12_readAll
  | 43 => yX12_fails
  | 44 => yX12_beginAnswer
  | 45 => yX12_write
  | 46 => yX12_open
  | 47 => yX12_putInt
  | 48 => yX12_put
  | 49 => yX12_putNumber
  | 50 => yX12_putWord
  | 51 => yX12_endAnswer
  | 52 => yX12_close
  | 53 => yX12_setInt4
  | 54 => yX12_int4
  | 55 => yX12_at
  | 56 => yX12_answer
  | 57 => yX12_state
  | 58 => yX12_isThereOne
  | 59 => yX12_number_
  | 60 => yX12_size
  | 61 => yX12_byteAt
  | 62 => yJ0_length_8abf5
  | 63 => yJ0_charAt_5068e
  | 64 => yJ0_coder_7d493
  | 65 => yJ0_isLatin1_aae02
  | 66 => yJ1_charAt_3b067
  | _ => Lib.objectInit
def q_code (y : Nat) : ByteArray := match y with
  | 0 => prog_2_method_1_code
  | 1 => prog_3_method_1_code
  | 2 => prog_4_method_1_code
  | 3 => prog_5_method_1_code
  | 4 => prog_6_method_1_code
  | 5 => prog_7_method_1_code
  | 6 => prog_8_method_1_code
  | 7 => prog_9_method_1_code
  | 8 => prog_10_method_1_code
  | 9 => prog_11_method_1_code
  | 10 => prog_12_method_1_code
  | 11 => prog_1_method_1_code
  | 12 => prog_14_method_1_code
  | 13 => prog_14_method_147_code
  | 14 => prog_14_method_146_code
  | 15 => prog_14_method_144_code
  | 16 => prog_1_method_2_code
  | 17 => prog_1_method_3_code
  | 18 => prog_1_method_4_code
  | 19 => prog_1_method_5_code
  | 20 => prog_1_method_6_code
  | 21 => prog_1_method_8_code
  | 22 => prog_1_method_9_code
  | 23 => prog_1_method_10_code
  | 24 => prog_1_method_11_code
  | 25 => prog_1_method_12_code
  | 26 => prog_1_method_13_code
  | 27 => prog_10_method_5_code
  | 28 => prog_6_method_2_code
  | 29 => prog_6_method_12_code
  | 30 => prog_6_method_4_code
  | 31 => prog_6_method_3_code
  | 32 => prog_6_method_13_code
  | 33 => prog_6_method_6_code
  | 34 => prog_6_method_14_code
  | 35 => prog_6_method_8_code
  | 36 => prog_8_method_2_code
  | 37 => prog_8_method_4_code
  | 38 => prog_8_method_3_code
  | 39 => prog_9_method_7_code
  | 40 => prog_14_method_201_code
  | 41 => prog_14_method_202_code
  | 42 => prog_14_method_36_code
  | 43 => prog_14_method_33_code
  | 44 => prog_14_method_190_code
  | 45 => prog_14_method_21_code
  | 46 => prog_14_method_27_code
  | 47 => prog_14_method_23_code
  | 48 => prog_14_method_22_code
  | 49 => prog_14_method_31_code
  | 50 => prog_14_method_25_code
  | 51 => prog_14_method_191_code
  | 52 => prog_14_method_28_code
  | 53 => prog_14_method_5_code
  | 54 => prog_14_method_3_code
  | 55 => prog_14_method_2_code
  | 56 => prog_14_method_203_code
  | 57 => prog_14_method_204_code
  | 58 => prog_14_method_205_code
  | 59 => prog_14_method_206_code
  | 60 => prog_14_method_207_code
  | 61 => prog_14_method_208_code
  | 62 => prog_19_method_54_code
  | 63 => prog_19_method_56_code
  | 64 => prog_19_method_152_code
  | 65 => prog_19_method_154_code
  | 66 => prog_20_method_2_code
  | _ => ⟨#[]⟩
def q_maxL (y : Nat) : Nat := match y with
  | 0 => 2
  | 1 => 2
  | 2 => 2
  | 3 => 2
  | 4 => 4
  | 5 => 1
  | 6 => 2
  | 7 => 1
  | 8 => 4
  | 9 => 2
  | 10 => 1
  | 11 => 2
  | 12 => 2
  | 13 => 3
  | 14 => 4
  | 15 => 4
  | 16 => 6
  | 17 => 3
  | 18 => 3
  | 19 => 1
  | 20 => 3
  | 21 => 2
  | 22 => 2
  | 23 => 3
  | 24 => 3
  | 25 => 5
  | 26 => 3
  | 27 => 3
  | 28 => 3
  | 29 => 2
  | 30 => 3
  | 31 => 2
  | 32 => 2
  | 33 => 3
  | 34 => 3
  | 35 => 4
  | 36 => 2
  | 37 => 11
  | 38 => 3
  | 39 => 2
  | 40 => 8
  | 41 => 3
  | 42 => 4
  | 43 => 3
  | 44 => 1
  | 45 => 3
  | 46 => 2
  | 47 => 3
  | 48 => 2
  | 49 => 3
  | 50 => 3
  | 51 => 1
  | 52 => 2
  | 53 => 4
  | 54 => 2
  | 55 => 2
  | 56 => 2
  | 57 => 4
  | 58 => 3
  | 59 => 3
  | 60 => 3
  | 61 => 4
  | 62 => 1
  | 63 => 2
  | 64 => 1
  | 65 => 1
  | 66 => 2
  | _ => 0
def q_ret (y : Nat) : Option FieldType := match y with
  | 0 => none
  | 1 => none
  | 2 => none
  | 3 => none
  | 4 => none
  | 5 => none
  | 6 => none
  | 7 => none
  | 8 => none
  | 9 => none
  | 10 => none
  | 11 => none
  | 12 => none
  | 13 => none
  | 14 => some .int
  | 15 => none
  | 16 => some .int
  | 17 => none
  | 18 => some .int
  | 19 => none
  | 20 => none
  | 21 => some .int
  | 22 => some .int
  | 23 => some .int
  | 24 => some .int
  | 25 => some .int
  | 26 => some .boolean
  | 27 => some .int
  | 28 => none
  | 29 => some .int
  | 30 => none
  | 31 => none
  | 32 => none
  | 33 => none
  | 34 => none
  | 35 => none
  | 36 => some .boolean
  | 37 => some .int
  | 38 => some .int
  | 39 => some .int
  | 40 => some .int
  | 41 => some .int
  | 42 => some .boolean
  | 43 => some .boolean
  | 44 => none
  | 45 => none
  | 46 => some .int
  | 47 => none
  | 48 => none
  | 49 => none
  | 50 => none
  | 51 => some .boolean
  | 52 => none
  | 53 => none
  | 54 => some .int
  | 55 => some .int
  | 56 => some .int
  | 57 => some .int
  | 58 => some .boolean
  | 59 => some .int
  | 60 => some .int
  | 61 => some .int
  | 62 => some .int
  | 63 => some .char
  | 64 => some .byte
  | 65 => some .boolean
  | 66 => some .char
  | _ => none
def q_own (y : Nat) : Nat := match y with
  | 0 => 0
  | 1 => 1
  | 2 => 2
  | 3 => 3
  | 4 => 4
  | 5 => 5
  | 6 => 6
  | 7 => 7
  | 8 => 8
  | 9 => 9
  | 10 => 10
  | 11 => 11
  | 12 => 12
  | 13 => 12
  | 14 => 12
  | 15 => 12
  | 16 => 11
  | 17 => 11
  | 18 => 11
  | 19 => 11
  | 20 => 11
  | 21 => 11
  | 22 => 11
  | 23 => 11
  | 24 => 11
  | 25 => 11
  | 26 => 11
  | 27 => 8
  | 28 => 4
  | 29 => 4
  | 30 => 4
  | 31 => 4
  | 32 => 4
  | 33 => 4
  | 34 => 4
  | 35 => 4
  | 36 => 6
  | 37 => 6
  | 38 => 6
  | 39 => 7
  | 40 => 12
  | 41 => 12
  | 42 => 12
  | 43 => 12
  | 44 => 12
  | 45 => 12
  | 46 => 12
  | 47 => 12
  | 48 => 12
  | 49 => 12
  | 50 => 12
  | 51 => 12
  | 52 => 12
  | 53 => 12
  | 54 => 12
  | 55 => 12
  | 56 => 12
  | 57 => 12
  | 58 => 12
  | 59 => 12
  | 60 => 12
  | 61 => 12
  | 62 => 14
  | 63 => 14
  | 64 => 14
  | 65 => 14
  | 66 => 15
  | _ => 13
def q_stat (y : Nat) : Bool := match y with
  | 0 => false
  | 1 => false
  | 2 => false
  | 3 => false
  | 4 => false
  | 5 => false
  | 6 => false
  | 7 => false
  | 8 => false
  | 9 => false
  | 10 => false
  | 11 => false
  | 12 => false
  | 13 => false
  | 14 => false
  | 15 => false
  | 16 => false
  | 17 => false
  | 18 => false
  | 19 => false
  | 20 => false
  | 21 => false
  | 22 => false
  | 23 => false
  | 24 => false
  | 25 => false
  | 26 => false
  | 27 => false
  | 28 => false
  | 29 => false
  | 30 => false
  | 31 => false
  | 32 => false
  | 33 => false
  | 34 => false
  | 35 => false
  | 36 => false
  | 37 => false
  | 38 => false
  | 39 => true
  | 40 => false
  | 41 => false
  | 42 => false
  | 43 => false
  | 44 => false
  | 45 => false
  | 46 => false
  | 47 => false
  | 48 => false
  | 49 => false
  | 50 => false
  | 51 => false
  | 52 => false
  | 53 => false
  | 54 => false
  | 55 => false
  | 56 => false
  | 57 => false
  | 58 => false
  | 59 => false
  | 60 => false
  | 61 => false
  | 62 => false
  | 63 => false
  | 64 => false
  | 65 => false
  | 66 => true
  | _ => false
def q_ini (y : Nat) : Bool := match y with
  | 0 => true
  | 1 => true
  | 2 => true
  | 3 => true
  | 4 => true
  | 5 => true
  | 6 => true
  | 7 => true
  | 8 => true
  | 9 => true
  | 10 => true
  | 11 => true
  | 12 => true
  | 13 => false
  | 14 => false
  | 15 => false
  | 16 => false
  | 17 => false
  | 18 => false
  | 19 => false
  | 20 => false
  | 21 => false
  | 22 => false
  | 23 => false
  | 24 => false
  | 25 => false
  | 26 => false
  | 27 => false
  | 28 => false
  | 29 => false
  | 30 => false
  | 31 => false
  | 32 => false
  | 33 => false
  | 34 => false
  | 35 => false
  | 36 => false
  | 37 => false
  | 38 => false
  | 39 => false
  | 40 => false
  | 41 => false
  | 42 => false
  | 43 => false
  | 44 => false
  | 45 => false
  | 46 => false
  | 47 => false
  | 48 => false
  | 49 => false
  | 50 => false
  | 51 => false
  | 52 => false
  | 53 => false
  | 54 => false
  | 55 => false
  | 56 => false
  | 57 => false
  | 58 => false
  | 59 => false
  | 60 => false
  | 61 => false
  | 62 => false
  | 63 => false
  | 64 => false
  | 65 => false
  | 66 => false
  | _ => false
def q_na (y : Nat) : Nat := match y with
  | 0 => 1
  | 1 => 1
  | 2 => 1
  | 3 => 1
  | 4 => 3
  | 5 => 0
  | 6 => 1
  | 7 => 0
  | 8 => 2
  | 9 => 1
  | 10 => 0
  | 11 => 0
  | 12 => 0
  | 13 => 1
  | 14 => 2
  | 15 => 3
  | 16 => 5
  | 17 => 1
  | 18 => 1
  | 19 => 0
  | 20 => 2
  | 21 => 1
  | 22 => 1
  | 23 => 2
  | 24 => 2
  | 25 => 3
  | 26 => 2
  | 27 => 0
  | 28 => 2
  | 29 => 0
  | 30 => 1
  | 31 => 1
  | 32 => 1
  | 33 => 2
  | 34 => 2
  | 35 => 2
  | 36 => 1
  | 37 => 4
  | 38 => 2
  | 39 => 2
  | 40 => 5
  | 41 => 1
  | 42 => 1
  | 43 => 2
  | 44 => 0
  | 45 => 2
  | 46 => 0
  | 47 => 1
  | 48 => 1
  | 49 => 2
  | 50 => 1
  | 51 => 0
  | 52 => 1
  | 53 => 2
  | 54 => 1
  | 55 => 1
  | 56 => 1
  | 57 => 1
  | 58 => 2
  | 59 => 2
  | 60 => 2
  | 61 => 3
  | 62 => 0
  | 63 => 1
  | 64 => 0
  | 65 => 0
  | 66 => 2
  | _ => 0
/-- what is known of a method -/
def q_mOK (y : Nat) : Prop := plainName (q_y y).cls = true ∧ Cond.code (q_y y) (q_code y) (q_maxL y) (q_ret y) ∈ lw_tbl ∧ (q_y y).cls = q_R (q_own y) ∧ Cond.initialized (q_y y).cls ∈ lw_tbl ∧ (q_stat y = true → Cond.static (q_y y) ∈ lw_tbl) ∧ (q_stat y = false → Cond.instanceMethod (q_y y) ∈ lw_tbl) ∧ (q_stat y = false → q_ini y = false → Cond.selects (q_y y).cls (q_y y) (q_y y) ∈ lw_tbl) ∧ (q_ini y = true → (q_y y).name = "<init>") ∧ ((q_y y).cls ≠ "java/lang/invoke/MethodHandle" ∧ (q_y y).cls ≠ "java/lang/invoke/VarHandle" ∧ (parseMethodDescriptor (q_y y).desc).map (fun d => d.parameters.length) = some (q_na y)) ∧ q_maxL y ≤ 21
theorem q_m0 : q_mOK 0 := ⟨by decide +kernel, q_lwt (i := 285) (by decide +kernel), by decide +kernel, q_lwt (i := 9) (by decide +kernel), fun h => absurd h (by decide), fun _ => q_lwt (i := 284) (by decide +kernel), fun _ h => absurd h (by decide), fun _ => rfl, ⟨by decide +kernel, by decide +kernel, by decide +kernel⟩, by decide⟩
theorem q_m1 : q_mOK 1 := ⟨by decide +kernel, q_lwt (i := 166) (by decide +kernel), by decide +kernel, q_lwt (i := 7) (by decide +kernel), fun h => absurd h (by decide), fun _ => q_lwt (i := 165) (by decide +kernel), fun _ h => absurd h (by decide), fun _ => rfl, ⟨by decide +kernel, by decide +kernel, by decide +kernel⟩, by decide⟩
theorem q_m2 : q_mOK 2 := ⟨by decide +kernel, q_lwt (i := 107) (by decide +kernel), by decide +kernel, q_lwt (i := 5) (by decide +kernel), fun h => absurd h (by decide), fun _ => q_lwt (i := 106) (by decide +kernel), fun _ h => absurd h (by decide), fun _ => rfl, ⟨by decide +kernel, by decide +kernel, by decide +kernel⟩, by decide⟩
theorem q_m3 : q_mOK 3 := ⟨by decide +kernel, q_lwt (i := 326) (by decide +kernel), by decide +kernel, q_lwt (i := 11) (by decide +kernel), fun h => absurd h (by decide), fun _ => q_lwt (i := 325) (by decide +kernel), fun _ h => absurd h (by decide), fun _ => rfl, ⟨by decide +kernel, by decide +kernel, by decide +kernel⟩, by decide⟩
theorem q_m4 : q_mOK 4 := ⟨by decide +kernel, q_lwt (i := 65) (by decide +kernel), by decide +kernel, q_lwt (i := 3) (by decide +kernel), fun h => absurd h (by decide), fun _ => q_lwt (i := 64) (by decide +kernel), fun _ h => absurd h (by decide), fun _ => rfl, ⟨by decide +kernel, by decide +kernel, by decide +kernel⟩, by decide⟩
theorem q_m5 : q_mOK 5 := ⟨by decide +kernel, q_lwt (i := 113) (by decide +kernel), by decide +kernel, q_lwt (i := 6) (by decide +kernel), fun h => absurd h (by decide), fun _ => q_lwt (i := 112) (by decide +kernel), fun _ h => absurd h (by decide), fun _ => rfl, ⟨by decide +kernel, by decide +kernel, by decide +kernel⟩, by decide⟩
theorem q_m6 : q_mOK 6 := ⟨by decide +kernel, q_lwt (i := 89) (by decide +kernel), by decide +kernel, q_lwt (i := 4) (by decide +kernel), fun h => absurd h (by decide), fun _ => q_lwt (i := 88) (by decide +kernel), fun _ h => absurd h (by decide), fun _ => rfl, ⟨by decide +kernel, by decide +kernel, by decide +kernel⟩, by decide⟩
theorem q_m7 : q_mOK 7 := ⟨by decide +kernel, q_lwt (i := 35) (by decide +kernel), by decide +kernel, q_lwt (i := 2) (by decide +kernel), fun h => absurd h (by decide), fun _ => q_lwt (i := 34) (by decide +kernel), fun _ h => absurd h (by decide), fun _ => rfl, ⟨by decide +kernel, by decide +kernel, by decide +kernel⟩, by decide⟩
theorem q_m8 : q_mOK 8 := ⟨by decide +kernel, q_lwt (i := 316) (by decide +kernel), by decide +kernel, q_lwt (i := 10) (by decide +kernel), fun h => absurd h (by decide), fun _ => q_lwt (i := 315) (by decide +kernel), fun _ h => absurd h (by decide), fun _ => rfl, ⟨by decide +kernel, by decide +kernel, by decide +kernel⟩, by decide⟩
theorem q_m9 : q_mOK 9 := ⟨by decide +kernel, q_lwt (i := 208) (by decide +kernel), by decide +kernel, q_lwt (i := 8) (by decide +kernel), fun h => absurd h (by decide), fun _ => q_lwt (i := 207) (by decide +kernel), fun _ h => absurd h (by decide), fun _ => rfl, ⟨by decide +kernel, by decide +kernel, by decide +kernel⟩, by decide⟩
theorem q_m10 : q_mOK 10 := ⟨by decide +kernel, q_lwt (i := 334) (by decide +kernel), by decide +kernel, q_lwt (i := 12) (by decide +kernel), fun h => absurd h (by decide), fun _ => q_lwt (i := 333) (by decide +kernel), fun _ h => absurd h (by decide), fun _ => rfl, ⟨by decide +kernel, by decide +kernel, by decide +kernel⟩, by decide⟩
theorem q_m11 : q_mOK 11 := ⟨by decide +kernel, q_lwt (i := 27) (by decide +kernel), by decide +kernel, q_lwt (i := 1) (by decide +kernel), fun h => absurd h (by decide), fun _ => q_lwt (i := 26) (by decide +kernel), fun _ h => absurd h (by decide), fun _ => rfl, ⟨by decide +kernel, by decide +kernel, by decide +kernel⟩, by decide⟩
theorem q_m12 : q_mOK 12 := ⟨by decide +kernel, q_lwt (i := 1706) (by decide +kernel), by decide +kernel, q_lwt (i := 13) (by decide +kernel), fun h => absurd h (by decide), fun _ => q_lwt (i := 1705) (by decide +kernel), fun _ h => absurd h (by decide), fun _ => rfl, ⟨by decide +kernel, by decide +kernel, by decide +kernel⟩, by decide⟩
theorem q_m13 : q_mOK 13 := ⟨by decide +kernel, q_lwt (i := 1715) (by decide +kernel), by decide +kernel, q_lwt (i := 13) (by decide +kernel), fun h => absurd h (by decide), fun _ => q_lwt (i := 1714) (by decide +kernel), fun _ _ => q_lws (i := 178) (y := (yX12_dropTree, q_N 12)) (by decide +kernel), fun h => absurd h (by decide), ⟨by decide +kernel, by decide +kernel, by decide +kernel⟩, by decide⟩
theorem q_m14 : q_mOK 14 := ⟨by decide +kernel, q_lwt (i := 1719) (by decide +kernel), by decide +kernel, q_lwt (i := 13) (by decide +kernel), fun h => absurd h (by decide), fun _ => q_lwt (i := 1718) (by decide +kernel), fun _ _ => q_lws (i := 179) (y := (yX12_newNode, q_N 12)) (by decide +kernel), fun h => absurd h (by decide), ⟨by decide +kernel, by decide +kernel, by decide +kernel⟩, by decide⟩
theorem q_m15 : q_mOK 15 := ⟨by decide +kernel, q_lwt (i := 1723) (by decide +kernel), by decide +kernel, q_lwt (i := 13) (by decide +kernel), fun h => absurd h (by decide), fun _ => q_lwt (i := 1722) (by decide +kernel), fun _ _ => q_lws (i := 180) (y := (yX12_setSize, q_N 12)) (by decide +kernel), fun h => absurd h (by decide), ⟨by decide +kernel, by decide +kernel, by decide +kernel⟩, by decide⟩
theorem q_m16 : q_mOK 16 := ⟨by decide +kernel, q_lwt (i := 562) (by decide +kernel), by decide +kernel, q_lwt (i := 1) (by decide +kernel), fun h => absurd h (by decide), fun _ => q_lwt (i := 560) (by decide +kernel), fun _ _ => q_lwt (i := 561) (by decide +kernel), fun h => absurd h (by decide), ⟨by decide +kernel, by decide +kernel, by decide +kernel⟩, by decide⟩
theorem q_m17 : q_mOK 17 := ⟨by decide +kernel, q_lwt (i := 566) (by decide +kernel), by decide +kernel, q_lwt (i := 1) (by decide +kernel), fun h => absurd h (by decide), fun _ => q_lwt (i := 565) (by decide +kernel), fun _ _ => q_lws (i := 0) (y := (yX11_putOnTape, q_N 11)) (by decide +kernel), fun h => absurd h (by decide), ⟨by decide +kernel, by decide +kernel, by decide +kernel⟩, by decide⟩
theorem q_m18 : q_mOK 18 := ⟨by decide +kernel, q_lwt (i := 570) (by decide +kernel), by decide +kernel, q_lwt (i := 1) (by decide +kernel), fun h => absurd h (by decide), fun _ => q_lwt (i := 568) (by decide +kernel), fun _ _ => q_lwt (i := 569) (by decide +kernel), fun h => absurd h (by decide), ⟨by decide +kernel, by decide +kernel, by decide +kernel⟩, by decide⟩
theorem q_m19 : q_mOK 19 := ⟨by decide +kernel, q_lwt (i := 1671) (by decide +kernel), by decide +kernel, q_lwt (i := 1) (by decide +kernel), fun h => absurd h (by decide), fun _ => q_lwt (i := 1670) (by decide +kernel), fun _ _ => q_lws (i := 175) (y := (yX11_tellFault, q_N 11)) (by decide +kernel), fun h => absurd h (by decide), ⟨by decide +kernel, by decide +kernel, by decide +kernel⟩, by decide⟩
theorem q_m20 : q_mOK 20 := ⟨by decide +kernel, q_lwt (i := 648) (by decide +kernel), by decide +kernel, q_lwt (i := 1) (by decide +kernel), fun h => absurd h (by decide), fun _ => q_lwt (i := 647) (by decide +kernel), fun _ _ => q_lws (i := 11) (y := (yX11_fail, q_N 11)) (by decide +kernel), fun h => absurd h (by decide), ⟨by decide +kernel, by decide +kernel, by decide +kernel⟩, by decide⟩
theorem q_m21 : q_mOK 21 := ⟨by decide +kernel, q_lwt (i := 1677) (by decide +kernel), by decide +kernel, q_lwt (i := 1) (by decide +kernel), fun h => absurd h (by decide), fun _ => q_lwt (i := 1675) (by decide +kernel), fun _ _ => q_lwt (i := 1676) (by decide +kernel), fun h => absurd h (by decide), ⟨by decide +kernel, by decide +kernel, by decide +kernel⟩, by decide⟩
theorem q_m22 : q_mOK 22 := ⟨by decide +kernel, q_lwt (i := 1681) (by decide +kernel), by decide +kernel, q_lwt (i := 1) (by decide +kernel), fun h => absurd h (by decide), fun _ => q_lwt (i := 1679) (by decide +kernel), fun _ _ => q_lwt (i := 1680) (by decide +kernel), fun h => absurd h (by decide), ⟨by decide +kernel, by decide +kernel, by decide +kernel⟩, by decide⟩
theorem q_m23 : q_mOK 23 := ⟨by decide +kernel, q_lwt (i := 1689) (by decide +kernel), by decide +kernel, q_lwt (i := 1) (by decide +kernel), fun h => absurd h (by decide), fun _ => q_lwt (i := 1687) (by decide +kernel), fun _ _ => q_lwt (i := 1688) (by decide +kernel), fun h => absurd h (by decide), ⟨by decide +kernel, by decide +kernel, by decide +kernel⟩, by decide⟩
theorem q_m24 : q_mOK 24 := ⟨by decide +kernel, q_lwt (i := 1697) (by decide +kernel), by decide +kernel, q_lwt (i := 1) (by decide +kernel), fun h => absurd h (by decide), fun _ => q_lwt (i := 1695) (by decide +kernel), fun _ _ => q_lwt (i := 1696) (by decide +kernel), fun h => absurd h (by decide), ⟨by decide +kernel, by decide +kernel, by decide +kernel⟩, by decide⟩
theorem q_m25 : q_mOK 25 := ⟨by decide +kernel, q_lwt (i := 1701) (by decide +kernel), by decide +kernel, q_lwt (i := 1) (by decide +kernel), fun h => absurd h (by decide), fun _ => q_lwt (i := 1699) (by decide +kernel), fun _ _ => q_lwt (i := 1700) (by decide +kernel), fun h => absurd h (by decide), ⟨by decide +kernel, by decide +kernel, by decide +kernel⟩, by decide⟩
theorem q_m26 : q_mOK 26 := ⟨by decide +kernel, q_lwt (i := 1693) (by decide +kernel), by decide +kernel, q_lwt (i := 1) (by decide +kernel), fun h => absurd h (by decide), fun _ => q_lwt (i := 1692) (by decide +kernel), fun _ _ => q_lws (i := 177) (y := (yX11_standsOn, q_N 11)) (by decide +kernel), fun h => absurd h (by decide), ⟨by decide +kernel, by decide +kernel, by decide +kernel⟩, by decide⟩
theorem q_m27 : q_mOK 27 := ⟨by decide +kernel, q_lwt (i := 1685) (by decide +kernel), by decide +kernel, q_lwt (i := 10) (by decide +kernel), fun h => absurd h (by decide), fun _ => q_lwt (i := 1684) (by decide +kernel), fun _ _ => q_lws (i := 176) (y := (yX8_indexCount, q_N 8)) (by decide +kernel), fun h => absurd h (by decide), ⟨by decide +kernel, by decide +kernel, by decide +kernel⟩, by decide⟩
theorem q_m28 : q_mOK 28 := ⟨by decide +kernel, q_lwt (i := 574) (by decide +kernel), by decide +kernel, q_lwt (i := 3) (by decide +kernel), fun h => absurd h (by decide), fun _ => q_lwt (i := 573) (by decide +kernel), fun _ _ => q_lws (i := 1) (y := (yX4_start, q_N 4)) (by decide +kernel), fun h => absurd h (by decide), ⟨by decide +kernel, by decide +kernel, by decide +kernel⟩, by decide⟩
theorem q_m29 : q_mOK 29 := ⟨by decide +kernel, q_lwt (i := 584) (by decide +kernel), by decide +kernel, q_lwt (i := 3) (by decide +kernel), fun h => absurd h (by decide), fun _ => q_lwt (i := 583) (by decide +kernel), fun _ _ => q_lws (i := 2) (y := (yX4_open, q_N 4)) (by decide +kernel), fun h => absurd h (by decide), ⟨by decide +kernel, by decide +kernel, by decide +kernel⟩, by decide⟩
theorem q_m30 : q_mOK 30 := ⟨by decide +kernel, q_lwt (i := 588) (by decide +kernel), by decide +kernel, q_lwt (i := 3) (by decide +kernel), fun h => absurd h (by decide), fun _ => q_lwt (i := 587) (by decide +kernel), fun _ _ => q_lws (i := 3) (y := (yX4_put4, q_N 4)) (by decide +kernel), fun h => absurd h (by decide), ⟨by decide +kernel, by decide +kernel, by decide +kernel⟩, by decide⟩
theorem q_m31 : q_mOK 31 := ⟨by decide +kernel, q_lwt (i := 936) (by decide +kernel), by decide +kernel, q_lwt (i := 3) (by decide +kernel), fun h => absurd h (by decide), fun _ => q_lwt (i := 935) (by decide +kernel), fun _ _ => q_lws (i := 44) (y := (yX4_put, q_N 4)) (by decide +kernel), fun h => absurd h (by decide), ⟨by decide +kernel, by decide +kernel, by decide +kernel⟩, by decide⟩
theorem q_m32 : q_mOK 32 := ⟨by decide +kernel, q_lwt (i := 1109) (by decide +kernel), by decide +kernel, q_lwt (i := 3) (by decide +kernel), fun h => absurd h (by decide), fun _ => q_lwt (i := 1108) (by decide +kernel), fun _ _ => q_lws (i := 73) (y := (yX4_close, q_N 4)) (by decide +kernel), fun h => absurd h (by decide), ⟨by decide +kernel, by decide +kernel, by decide +kernel⟩, by decide⟩
theorem q_m33 : q_mOK 33 := ⟨by decide +kernel, q_lwt (i := 1113) (by decide +kernel), by decide +kernel, q_lwt (i := 3) (by decide +kernel), fun h => absurd h (by decide), fun _ => q_lwt (i := 1112) (by decide +kernel), fun _ _ => q_lws (i := 74) (y := (yX4_patch, q_N 4)) (by decide +kernel), fun h => absurd h (by decide), ⟨by decide +kernel, by decide +kernel, by decide +kernel⟩, by decide⟩
theorem q_m34 : q_mOK 34 := ⟨by decide +kernel, q_lwt (i := 928) (by decide +kernel), by decide +kernel, q_lwt (i := 3) (by decide +kernel), fun h => absurd h (by decide), fun _ => q_lwt (i := 927) (by decide +kernel), fun _ _ => q_lws (i := 42) (y := (yX4_named, q_N 4)) (by decide +kernel), fun h => absurd h (by decide), ⟨by decide +kernel, by decide +kernel, by decide +kernel⟩, by decide⟩
theorem q_m35 : q_mOK 35 := ⟨by decide +kernel, q_lwt (i := 932) (by decide +kernel), by decide +kernel, q_lwt (i := 3) (by decide +kernel), fun h => absurd h (by decide), fun _ => q_lwt (i := 931) (by decide +kernel), fun _ _ => q_lws (i := 43) (y := (yX4_head, q_N 4)) (by decide +kernel), fun h => absurd h (by decide), ⟨by decide +kernel, by decide +kernel, by decide +kernel⟩, by decide⟩
theorem q_m36 : q_mOK 36 := ⟨by decide +kernel, q_lwt (i := 592) (by decide +kernel), by decide +kernel, q_lwt (i := 4) (by decide +kernel), fun h => absurd h (by decide), fun _ => q_lwt (i := 591) (by decide +kernel), fun _ _ => q_lws (i := 4) (y := (yX6_reads, q_N 6)) (by decide +kernel), fun h => absurd h (by decide), ⟨by decide +kernel, by decide +kernel, by decide +kernel⟩, by decide⟩
theorem q_m37 : q_mOK 37 := ⟨by decide +kernel, q_lwt (i := 596) (by decide +kernel), by decide +kernel, q_lwt (i := 4) (by decide +kernel), fun h => absurd h (by decide), fun _ => q_lwt (i := 595) (by decide +kernel), fun _ _ => q_lws (i := 5) (y := (yX6_document, q_N 6)) (by decide +kernel), fun h => absurd h (by decide), ⟨by decide +kernel, by decide +kernel, by decide +kernel⟩, by decide⟩
theorem q_m38 : q_mOK 38 := ⟨by decide +kernel, q_lwt (i := 600) (by decide +kernel), by decide +kernel, q_lwt (i := 4) (by decide +kernel), fun h => absurd h (by decide), fun _ => q_lwt (i := 599) (by decide +kernel), fun _ _ => q_lws (i := 6) (y := (yX6_fails, q_N 6)) (by decide +kernel), fun h => absurd h (by decide), ⟨by decide +kernel, by decide +kernel, by decide +kernel⟩, by decide⟩
theorem q_m39 : q_mOK 39 := ⟨by decide +kernel, q_lwt (i := 603) (by decide +kernel), by decide +kernel, q_lwt (i := 2) (by decide +kernel), fun _ => q_lwt (i := 602) (by decide +kernel), fun h => absurd h (by decide), fun h => absurd h (by decide), fun h => absurd h (by decide), ⟨by decide +kernel, by decide +kernel, by decide +kernel⟩, by decide⟩
theorem q_m40 : q_mOK 40 := ⟨by decide +kernel, q_lwt (i := 1962) (by decide +kernel), by decide +kernel, q_lwt (i := 13) (by decide +kernel), fun h => absurd h (by decide), fun _ => q_lwt (i := 1960) (by decide +kernel), fun _ _ => q_lwt (i := 1961) (by decide +kernel), fun h => absurd h (by decide), ⟨by decide +kernel, by decide +kernel, by decide +kernel⟩, by decide⟩
theorem q_m41 : q_mOK 41 := ⟨by decide +kernel, q_lwt (i := 1966) (by decide +kernel), by decide +kernel, q_lwt (i := 13) (by decide +kernel), fun h => absurd h (by decide), fun _ => q_lwt (i := 1964) (by decide +kernel), fun _ _ => q_lwt (i := 1965) (by decide +kernel), fun h => absurd h (by decide), ⟨by decide +kernel, by decide +kernel, by decide +kernel⟩, by decide⟩
theorem q_m42 : q_mOK 42 := ⟨by decide +kernel, q_lwt (i := 1970) (by decide +kernel), by decide +kernel, q_lwt (i := 13) (by decide +kernel), fun h => absurd h (by decide), fun _ => q_lwt (i := 1969) (by decide +kernel), fun _ _ => q_lws (i := 181) (y := (yX12_readAll, q_N 12)) (by decide +kernel), fun h => absurd h (by decide), ⟨by decide +kernel, by decide +kernel, by decide +kernel⟩, by decide⟩
theorem q_m43 : q_mOK 43 := ⟨by decide +kernel, q_lwt (i := 1974) (by decide +kernel), by decide +kernel, q_lwt (i := 13) (by decide +kernel), fun h => absurd h (by decide), fun _ => q_lwt (i := 1973) (by decide +kernel), fun _ _ => q_lws (i := 182) (y := (yX12_fails, q_N 12)) (by decide +kernel), fun h => absurd h (by decide), ⟨by decide +kernel, by decide +kernel, by decide +kernel⟩, by decide⟩
theorem q_m44 : q_mOK 44 := ⟨by decide +kernel, q_lwt (i := 2171) (by decide +kernel), by decide +kernel, q_lwt (i := 13) (by decide +kernel), fun h => absurd h (by decide), fun _ => q_lwt (i := 2170) (by decide +kernel), fun _ _ => q_lws (i := 224) (y := (yX12_beginAnswer, q_N 12)) (by decide +kernel), fun h => absurd h (by decide), ⟨by decide +kernel, by decide +kernel, by decide +kernel⟩, by decide⟩
theorem q_m45 : q_mOK 45 := ⟨by decide +kernel, q_lwt (i := 2177) (by decide +kernel), by decide +kernel, q_lwt (i := 13) (by decide +kernel), fun h => absurd h (by decide), fun _ => q_lwt (i := 2176) (by decide +kernel), fun _ _ => q_lws (i := 225) (y := (yX12_write, q_N 12)) (by decide +kernel), fun h => absurd h (by decide), ⟨by decide +kernel, by decide +kernel, by decide +kernel⟩, by decide⟩
theorem q_m46 : q_mOK 46 := ⟨by decide +kernel, q_lwt (i := 2181) (by decide +kernel), by decide +kernel, q_lwt (i := 13) (by decide +kernel), fun h => absurd h (by decide), fun _ => q_lwt (i := 2180) (by decide +kernel), fun _ _ => q_lws (i := 226) (y := (yX12_open, q_N 12)) (by decide +kernel), fun h => absurd h (by decide), ⟨by decide +kernel, by decide +kernel, by decide +kernel⟩, by decide⟩
theorem q_m47 : q_mOK 47 := ⟨by decide +kernel, q_lwt (i := 2185) (by decide +kernel), by decide +kernel, q_lwt (i := 13) (by decide +kernel), fun h => absurd h (by decide), fun _ => q_lwt (i := 2184) (by decide +kernel), fun _ _ => q_lws (i := 227) (y := (yX12_putInt, q_N 12)) (by decide +kernel), fun h => absurd h (by decide), ⟨by decide +kernel, by decide +kernel, by decide +kernel⟩, by decide⟩
theorem q_m48 : q_mOK 48 := ⟨by decide +kernel, q_lwt (i := 2189) (by decide +kernel), by decide +kernel, q_lwt (i := 13) (by decide +kernel), fun h => absurd h (by decide), fun _ => q_lwt (i := 2188) (by decide +kernel), fun _ _ => q_lws (i := 228) (y := (yX12_put, q_N 12)) (by decide +kernel), fun h => absurd h (by decide), ⟨by decide +kernel, by decide +kernel, by decide +kernel⟩, by decide⟩
theorem q_m49 : q_mOK 49 := ⟨by decide +kernel, q_lwt (i := 2203) (by decide +kernel), by decide +kernel, q_lwt (i := 13) (by decide +kernel), fun h => absurd h (by decide), fun _ => q_lwt (i := 2202) (by decide +kernel), fun _ _ => q_lws (i := 231) (y := (yX12_putNumber, q_N 12)) (by decide +kernel), fun h => absurd h (by decide), ⟨by decide +kernel, by decide +kernel, by decide +kernel⟩, by decide⟩
theorem q_m50 : q_mOK 50 := ⟨by decide +kernel, q_lwt (i := 2198) (by decide +kernel), by decide +kernel, q_lwt (i := 13) (by decide +kernel), fun h => absurd h (by decide), fun _ => q_lwt (i := 2197) (by decide +kernel), fun _ _ => q_lws (i := 230) (y := (yX12_putWord, q_N 12)) (by decide +kernel), fun h => absurd h (by decide), ⟨by decide +kernel, by decide +kernel, by decide +kernel⟩, by decide⟩
theorem q_m51 : q_mOK 51 := ⟨by decide +kernel, q_lwt (i := 2228) (by decide +kernel), by decide +kernel, q_lwt (i := 13) (by decide +kernel), fun h => absurd h (by decide), fun _ => q_lwt (i := 2227) (by decide +kernel), fun _ _ => q_lws (i := 236) (y := (yX12_endAnswer, q_N 12)) (by decide +kernel), fun h => absurd h (by decide), ⟨by decide +kernel, by decide +kernel, by decide +kernel⟩, by decide⟩
theorem q_m52 : q_mOK 52 := ⟨by decide +kernel, q_lwt (i := 2232) (by decide +kernel), by decide +kernel, q_lwt (i := 13) (by decide +kernel), fun h => absurd h (by decide), fun _ => q_lwt (i := 2231) (by decide +kernel), fun _ _ => q_lws (i := 237) (y := (yX12_close, q_N 12)) (by decide +kernel), fun h => absurd h (by decide), ⟨by decide +kernel, by decide +kernel, by decide +kernel⟩, by decide⟩
theorem q_m53 : q_mOK 53 := ⟨by decide +kernel, q_lwt (i := 2236) (by decide +kernel), by decide +kernel, q_lwt (i := 13) (by decide +kernel), fun h => absurd h (by decide), fun _ => q_lwt (i := 2235) (by decide +kernel), fun _ _ => q_lws (i := 238) (y := (yX12_setInt4, q_N 12)) (by decide +kernel), fun h => absurd h (by decide), ⟨by decide +kernel, by decide +kernel, by decide +kernel⟩, by decide⟩
theorem q_m54 : q_mOK 54 := ⟨by decide +kernel, q_lwt (i := 1978) (by decide +kernel), by decide +kernel, q_lwt (i := 13) (by decide +kernel), fun h => absurd h (by decide), fun _ => q_lwt (i := 1977) (by decide +kernel), fun _ _ => q_lws (i := 183) (y := (yX12_int4, q_N 12)) (by decide +kernel), fun h => absurd h (by decide), ⟨by decide +kernel, by decide +kernel, by decide +kernel⟩, by decide⟩
theorem q_m55 : q_mOK 55 := ⟨by decide +kernel, q_lwt (i := 1982) (by decide +kernel), by decide +kernel, q_lwt (i := 13) (by decide +kernel), fun h => absurd h (by decide), fun _ => q_lwt (i := 1981) (by decide +kernel), fun _ _ => q_lws (i := 184) (y := (yX12_at, q_N 12)) (by decide +kernel), fun h => absurd h (by decide), ⟨by decide +kernel, by decide +kernel, by decide +kernel⟩, by decide⟩
theorem q_m56 : q_mOK 56 := ⟨by decide +kernel, q_lwt (i := 2843) (by decide +kernel), by decide +kernel, q_lwt (i := 13) (by decide +kernel), fun h => absurd h (by decide), fun _ => q_lwt (i := 2841) (by decide +kernel), fun _ _ => q_lwt (i := 2842) (by decide +kernel), fun h => absurd h (by decide), ⟨by decide +kernel, by decide +kernel, by decide +kernel⟩, by decide⟩
theorem q_m57 : q_mOK 57 := ⟨by decide +kernel, q_lwt (i := 2847) (by decide +kernel), by decide +kernel, q_lwt (i := 13) (by decide +kernel), fun h => absurd h (by decide), fun _ => q_lwt (i := 2845) (by decide +kernel), fun _ _ => q_lwt (i := 2846) (by decide +kernel), fun h => absurd h (by decide), ⟨by decide +kernel, by decide +kernel, by decide +kernel⟩, by decide⟩
theorem q_m58 : q_mOK 58 := ⟨by decide +kernel, q_lwt (i := 2855) (by decide +kernel), by decide +kernel, q_lwt (i := 13) (by decide +kernel), fun h => absurd h (by decide), fun _ => q_lwt (i := 2854) (by decide +kernel), fun _ _ => q_lws (i := 372) (y := (yX12_isThereOne, q_N 12)) (by decide +kernel), fun h => absurd h (by decide), ⟨by decide +kernel, by decide +kernel, by decide +kernel⟩, by decide⟩
theorem q_m59 : q_mOK 59 := ⟨by decide +kernel, q_lwt (i := 2851) (by decide +kernel), by decide +kernel, q_lwt (i := 13) (by decide +kernel), fun h => absurd h (by decide), fun _ => q_lwt (i := 2849) (by decide +kernel), fun _ _ => q_lwt (i := 2850) (by decide +kernel), fun h => absurd h (by decide), ⟨by decide +kernel, by decide +kernel, by decide +kernel⟩, by decide⟩
theorem q_m60 : q_mOK 60 := ⟨by decide +kernel, q_lwt (i := 2859) (by decide +kernel), by decide +kernel, q_lwt (i := 13) (by decide +kernel), fun h => absurd h (by decide), fun _ => q_lwt (i := 2857) (by decide +kernel), fun _ _ => q_lwt (i := 2858) (by decide +kernel), fun h => absurd h (by decide), ⟨by decide +kernel, by decide +kernel, by decide +kernel⟩, by decide⟩
theorem q_m61 : q_mOK 61 := ⟨by decide +kernel, q_lwt (i := 2863) (by decide +kernel), by decide +kernel, q_lwt (i := 13) (by decide +kernel), fun h => absurd h (by decide), fun _ => q_lwt (i := 2861) (by decide +kernel), fun _ _ => q_lwt (i := 2862) (by decide +kernel), fun h => absurd h (by decide), ⟨by decide +kernel, by decide +kernel, by decide +kernel⟩, by decide⟩
theorem q_m62 : q_mOK 62 := ⟨by decide +kernel, q_lwt (i := 670) (by decide +kernel), by decide +kernel, q_lwt (i := 16) (by decide +kernel), fun h => absurd h (by decide), fun _ => q_lwt (i := 668) (by decide +kernel), fun _ _ => q_lwt (i := 669) (by decide +kernel), fun h => absurd h (by decide), ⟨by decide +kernel, by decide +kernel, by decide +kernel⟩, by decide⟩
theorem q_m63 : q_mOK 63 := ⟨by decide +kernel, q_lwt (i := 680) (by decide +kernel), by decide +kernel, q_lwt (i := 16) (by decide +kernel), fun h => absurd h (by decide), fun _ => q_lwt (i := 678) (by decide +kernel), fun _ _ => q_lwt (i := 679) (by decide +kernel), fun h => absurd h (by decide), ⟨by decide +kernel, by decide +kernel, by decide +kernel⟩, by decide⟩
theorem q_m64 : q_mOK 64 := ⟨by decide +kernel, q_lwt (i := 674) (by decide +kernel), by decide +kernel, q_lwt (i := 16) (by decide +kernel), fun h => absurd h (by decide), fun _ => q_lwt (i := 672) (by decide +kernel), fun _ _ => q_lwt (i := 673) (by decide +kernel), fun h => absurd h (by decide), ⟨by decide +kernel, by decide +kernel, by decide +kernel⟩, by decide⟩
theorem q_m65 : q_mOK 65 := ⟨by decide +kernel, q_lwt (i := 684) (by decide +kernel), by decide +kernel, q_lwt (i := 16) (by decide +kernel), fun h => absurd h (by decide), fun _ => q_lwt (i := 682) (by decide +kernel), fun _ _ => q_lwt (i := 683) (by decide +kernel), fun h => absurd h (by decide), ⟨by decide +kernel, by decide +kernel, by decide +kernel⟩, by decide⟩
theorem q_m66 : q_mOK 66 := ⟨by decide +kernel, q_lwt (i := 687) (by decide +kernel), by decide +kernel, q_lwt (i := 17) (by decide +kernel), fun _ => q_lwt (i := 686) (by decide +kernel), fun h => absurd h (by decide), fun h => absurd h (by decide), fun h => absurd h (by decide), ⟨by decide +kernel, by decide +kernel, by decide +kernel⟩, by decide⟩
theorem q_m_ok : ∀ y, y < 67 → q_mOK y
  | 0, _ => q_m0
  | 1, _ => q_m1
  | 2, _ => q_m2
  | 3, _ => q_m3
  | 4, _ => q_m4
  | 5, _ => q_m5
  | 6, _ => q_m6
  | 7, _ => q_m7
  | 8, _ => q_m8
  | 9, _ => q_m9
  | 10, _ => q_m10
  | 11, _ => q_m11
  | 12, _ => q_m12
  | 13, _ => q_m13
  | 14, _ => q_m14
  | 15, _ => q_m15
  | 16, _ => q_m16
  | 17, _ => q_m17
  | 18, _ => q_m18
  | 19, _ => q_m19
  | 20, _ => q_m20
  | 21, _ => q_m21
  | 22, _ => q_m22
  | 23, _ => q_m23
  | 24, _ => q_m24
  | 25, _ => q_m25
  | 26, _ => q_m26
  | 27, _ => q_m27
  | 28, _ => q_m28
  | 29, _ => q_m29
  | 30, _ => q_m30
  | 31, _ => q_m31
  | 32, _ => q_m32
  | 33, _ => q_m33
  | 34, _ => q_m34
  | 35, _ => q_m35
  | 36, _ => q_m36
  | 37, _ => q_m37
  | 38, _ => q_m38
  | 39, _ => q_m39
  | 40, _ => q_m40
  | 41, _ => q_m41
  | 42, _ => q_m42
  | 43, _ => q_m43
  | 44, _ => q_m44
  | 45, _ => q_m45
  | 46, _ => q_m46
  | 47, _ => q_m47
  | 48, _ => q_m48
  | 49, _ => q_m49
  | 50, _ => q_m50
  | 51, _ => q_m51
  | 52, _ => q_m52
  | 53, _ => q_m53
  | 54, _ => q_m54
  | 55, _ => q_m55
  | 56, _ => q_m56
  | 57, _ => q_m57
  | 58, _ => q_m58
  | 59, _ => q_m59
  | 60, _ => q_m60
  | 61, _ => q_m61
  | 62, _ => q_m62
  | 63, _ => q_m63
  | 64, _ => q_m64
  | 65, _ => q_m65
  | 66, _ => q_m66
  | n + 67, h => absurd h (by omega)
def q_calT (o : Nat) : List (Nat × Nat × Nat × Nat) := match o with
  | 1 => [(17, 5, 1, 169), (29, 4, 1, 172), (133, 28, 1, 1182), (125, 39, 1, 1183), (140, 33, 1, 1184), (197, 29, 1, 1213), (207, 32, 1, 1215), (191, 30, 1, 1229), (194, 31, 1, 1238)]
  | 2 => [(26, 5, 1, 111)]
  | 3 => [(26, 5, 1, 329), (36, 10, 1, 332), (89, 39, 1, 1318)]
  | 4 => [(35, 30, 0, 585), (76, 35, 0, 929), (45, 31, 0, 933), (48, 62, 0, 937), (54, 63, 0, 938), (72, 33, 0, 1110)]
  | 5 => [(40, 39, 1, 747)]
  | 6 => [(15, 37, 0, 593), (26, 38, 0, 597), (30, 39, 1, 601)]
  | 7 => [(60, 62, 0, 667), (66, 63, 0, 677), (70, 39, 0, 759)]
  | 8 => [(37, 4, 1, 320), (50, 3, 1, 324), (57, 39, 1, 865)]
  | 9 => [(26, 5, 1, 211), (37, 4, 1, 214), (212, 39, 1, 1403), (163, 28, 1, 1410), (181, 31, 1, 1416), (185, 29, 1, 1417), (189, 32, 1, 1431), (286, 33, 1, 1456), (316, 35, 1, 1478)]
  | 11 => [(11, 7, 1, 33), (21, 4, 1, 63), (30, 6, 1, 87), (39, 2, 1, 105), (48, 1, 1, 164), (55, 9, 1, 206), (62, 0, 1, 283), (69, 5, 1, 310), (79, 8, 1, 314), (103, 17, 0, 563), (110, 28, 1, 571), (114, 29, 1, 581), (118, 36, 1, 589), (126, 20, 0, 645), (182, 34, 1, 925), (323, 35, 1, 1088), (168, 32, 1, 1106), (206, 39, 1, 1247), (175, 19, 0, 1668), (194, 27, 1, 1682), (197, 26, 0, 1690)]
  | 12 => [(137, 13, 0, 1712), (752, 14, 0, 1716), (749, 15, 0, 1720), (1016, 42, 0, 1967), (237, 43, 0, 1971), (145, 54, 0, 1975), (141, 55, 0, 1979), (150, 62, 0, 2077), (156, 63, 0, 2078), (940, 44, 0, 2168), (456, 45, 0, 2174), (508, 46, 0, 2178), (207, 47, 0, 2182), (204, 48, 0, 2186), (220, 50, 0, 2195), (944, 49, 0, 2200), (954, 51, 0, 2225), (514, 52, 0, 2229), (210, 53, 0, 2233), (1030, 58, 0, 2852)]
  | 13 => [(9, 11, 0, 25), (13, 16, 0, 559), (18, 18, 0, 567), (23, 21, 0, 1674), (27, 22, 0, 1678), (31, 23, 0, 1686), (36, 24, 0, 1694), (40, 25, 0, 1698), (12, 12, 0, 1704), (17, 40, 0, 1959), (22, 41, 0, 1963), (26, 56, 0, 2840), (30, 57, 0, 2844), (35, 59, 0, 2848), (39, 60, 0, 2856), (44, 61, 0, 2860)]
  | 14 => [(335, 64, 0, 671), (492, 65, 0, 681), (495, 66, 0, 685)]
  | _ => []
def q_calW (o : Nat) (q : Nat × Nat × Nat × Nat) : Cond := if q.2.2.1 = 0 then .methodLink (q_R o) q.1 (q_y q.2.1) else .methodLinkNest (q_R o) q.1 (q_y q.2.1) "DocumentHouse"
set_option maxRecDepth 100000 in
theorem q_calC_0 : (q_calT 0).all (fun q => decide (tables_1[q.2.2.2]? = some (q_calW 0 q)) && decide (q.2.1 < 67)) = true := by decide +kernel
set_option maxRecDepth 100000 in
theorem q_calC_1 : (q_calT 1).all (fun q => decide (tables_1[q.2.2.2]? = some (q_calW 1 q)) && decide (q.2.1 < 67)) = true := by decide +kernel
set_option maxRecDepth 100000 in
theorem q_calC_2 : (q_calT 2).all (fun q => decide (tables_1[q.2.2.2]? = some (q_calW 2 q)) && decide (q.2.1 < 67)) = true := by decide +kernel
set_option maxRecDepth 100000 in
theorem q_calC_3 : (q_calT 3).all (fun q => decide (tables_1[q.2.2.2]? = some (q_calW 3 q)) && decide (q.2.1 < 67)) = true := by decide +kernel
set_option maxRecDepth 100000 in
theorem q_calC_4 : (q_calT 4).all (fun q => decide (tables_1[q.2.2.2]? = some (q_calW 4 q)) && decide (q.2.1 < 67)) = true := by decide +kernel
set_option maxRecDepth 100000 in
theorem q_calC_5 : (q_calT 5).all (fun q => decide (tables_1[q.2.2.2]? = some (q_calW 5 q)) && decide (q.2.1 < 67)) = true := by decide +kernel
set_option maxRecDepth 100000 in
theorem q_calC_6 : (q_calT 6).all (fun q => decide (tables_1[q.2.2.2]? = some (q_calW 6 q)) && decide (q.2.1 < 67)) = true := by decide +kernel
set_option maxRecDepth 100000 in
theorem q_calC_7 : (q_calT 7).all (fun q => decide (tables_1[q.2.2.2]? = some (q_calW 7 q)) && decide (q.2.1 < 67)) = true := by decide +kernel
set_option maxRecDepth 100000 in
theorem q_calC_8 : (q_calT 8).all (fun q => decide (tables_1[q.2.2.2]? = some (q_calW 8 q)) && decide (q.2.1 < 67)) = true := by decide +kernel
set_option maxRecDepth 100000 in
theorem q_calC_9 : (q_calT 9).all (fun q => decide (tables_1[q.2.2.2]? = some (q_calW 9 q)) && decide (q.2.1 < 67)) = true := by decide +kernel
set_option maxRecDepth 100000 in
theorem q_calC_10 : (q_calT 10).all (fun q => decide (tables_1[q.2.2.2]? = some (q_calW 10 q)) && decide (q.2.1 < 67)) = true := by decide +kernel
set_option maxRecDepth 100000 in
theorem q_calC_11 : (q_calT 11).all (fun q => decide (tables_1[q.2.2.2]? = some (q_calW 11 q)) && decide (q.2.1 < 67)) = true := by decide +kernel
set_option maxRecDepth 100000 in
theorem q_calC_12 : (q_calT 12).all (fun q => decide (tables_1[q.2.2.2]? = some (q_calW 12 q)) && decide (q.2.1 < 67)) = true := by decide +kernel
set_option maxRecDepth 100000 in
theorem q_calC_13 : (q_calT 13).all (fun q => decide (tables_1[q.2.2.2]? = some (q_calW 13 q)) && decide (q.2.1 < 67)) = true := by decide +kernel
set_option maxRecDepth 100000 in
theorem q_calC_14 : (q_calT 14).all (fun q => decide (tables_1[q.2.2.2]? = some (q_calW 14 q)) && decide (q.2.1 < 67)) = true := by decide +kernel
set_option maxRecDepth 100000 in
theorem q_calC_15 : (q_calT 15).all (fun q => decide (tables_1[q.2.2.2]? = some (q_calW 15 q)) && decide (q.2.1 < 67)) = true := by decide +kernel
theorem q_calC : ∀ o, ∀ q ∈ q_calT o, (decide (tables_1[q.2.2.2]? = some (q_calW o q)) && decide (q.2.1 < 67)) = true
  | 0 => List.all_eq_true.mp q_calC_0
  | 1 => List.all_eq_true.mp q_calC_1
  | 2 => List.all_eq_true.mp q_calC_2
  | 3 => List.all_eq_true.mp q_calC_3
  | 4 => List.all_eq_true.mp q_calC_4
  | 5 => List.all_eq_true.mp q_calC_5
  | 6 => List.all_eq_true.mp q_calC_6
  | 7 => List.all_eq_true.mp q_calC_7
  | 8 => List.all_eq_true.mp q_calC_8
  | 9 => List.all_eq_true.mp q_calC_9
  | 10 => List.all_eq_true.mp q_calC_10
  | 11 => List.all_eq_true.mp q_calC_11
  | 12 => List.all_eq_true.mp q_calC_12
  | 13 => List.all_eq_true.mp q_calC_13
  | 14 => List.all_eq_true.mp q_calC_14
  | 15 => List.all_eq_true.mp q_calC_15
  | n + 16 => fun q h => absurd h (by simp [q_calT])
def q_cal (o i : Nat) : Option (Nat × Nat) := ((q_calT o).find? (fun q => q.1 == i)).map (fun q => (q.2.1, q.2.2.1))
theorem q_cal_s {o i : Nat} {q : Nat × Nat} (h : q_cal o i = some q) : q_mOK q.1 ∧ ((q.2 = 0 ∧ Cond.methodLink (q_R o) i (q_y q.1) ∈ lw_tbl) ∨ (¬ q.2 = 0 ∧ Cond.methodLinkNest (q_R o) i (q_y q.1) "DocumentHouse" ∈ lw_tbl)) := by
  unfold q_cal at h
  cases hf : (q_calT o).find? (fun q => q.1 == i) with
  | none => rw [hf] at h; cases h
  | some x =>
    rw [hf] at h
    cases h
    have h1 : x.1 = i := eq_of_beq (List.find?_some (p := fun q : Nat × Nat × Nat × Nat => q.1 == i) hf)
    have h2 := q_calC o x (List.mem_of_find?_eq_some hf)
    simp only [Bool.and_eq_true, decide_eq_true_eq] at h2
    obtain ⟨g1, g2⟩ := h2
    have g5 := q_lwt g1
    refine ⟨q_m_ok _ g2, ?_⟩
    unfold q_calW at g5
    by_cases hz : x.2.2.1 = 0
    · rw [if_pos hz, h1] at g5
      exact Or.inl ⟨hz, g5⟩
    · rw [if_neg hz, h1] at g5
      exact Or.inr ⟨hz, g5⟩
end
section
/-! the run of a method, calls through 'call' -/
def q_rets (ret : Option FieldType) (ins : Instr) (len : Nat) (st : List Value) : Option (Option Value) := match ins with
  | .return_ => q_if (len == 1) (match ret, st with
    | none, [] => some none
    | _, _ => none)
  | .ireturn => q_if (len == 1) (match ret, st with
    | some ty, [.int x] => q_if (q_nar ty x) (some (some (.int x)))
    | _, _ => none)
  | .areturn => q_if (len == 1) (match ret, st with
    | some (.object _), [.ref a] => some (some (.ref a))
    | some (.object _), [.null] => some (some .null)
    | some (.array _), [.ref a] => some (some (.ref a))
    | some (.array _), [.null] => some (some .null)
    | _, _ => none)
  | _ => none
abbrev q_X : Type := Option Value × q_H × Nat × Nat
/-- calls: kind 0 static, 1 virtual, 2 special -/
def q_kind (ins : Instr) : Option (Nat × Nat) := match ins with
  | .invokestatic i => some (0, i)
  | .invokevirtual i => some (1, i)
  | .invokespecial i => some (2, i)
  | _ => none
def q_cl (call : Nat → List Value → q_H → Option q_X) (o : Nat) (ins : Instr) (len : Nat) (st : List Value) (E : q_H) : Option (Option Value × List Value × q_H × Nat × Nat) :=
  (q_kind ins).bind fun ki => (q_cal o ki.2).bind fun q => q_nf q.1 fun y => q_if (len == 3 && decide (q_na y ≤ st.length)) (
    q_fc (st.take (q_na y)).reverse fun as => bif ki.1 == 0 then q_if (q_stat y && decide (((st.drop (q_na y)).map fun v => v.category).sum ≤ 8)) ((call y as E).map fun x => (x.1, st.drop (q_na y), x.2.1, x.2.2.1, x.2.2.2))
    else q_pr (st.drop (q_na y)) fun a r => q_if (!q_stat y && (q_ini y == (ki.1 == 2)) && (!q_ini y || (q_ret y).isNone) && q_rcv E a (q_own y) && decide ((r.map fun v => v.category).sum ≤ 8)) ((call y (.ref a :: as) E).map fun x => (x.1, r, x.2.1, x.2.2.1, x.2.2.2)))
def q_run (call : Nat → List Value → q_H → Option q_X) (o nL : Nat) (ini : Bool) (cc : ByteArray) (ret : Option FieldType) : Nat → Nat → q_L → List Value → q_H → Nat → Nat → Option q_X
  | 0, _, _, _, _, _, _ => none
  | n + 1, pc1, lv, st, E, c1, s1 => q_nf pc1 fun pc => q_nf c1 fun c0 => q_nf s1 fun s0 => match decode cc pc with
    | .error _ => none
    | .ok (ins, len) => match q_rets ret ins len st with
      | some v => some (v, E, c0, s0)
      | none => match q_cl call o ins len st E with
        | some (v, r, E1, dc, ds) => q_run call o nL ini cc ret n (pc + 3) lv (v.toList ++ r) E1 (c0 + dc) (s0 + ds)
        | none => match q_step o nL ini ins len pc lv st E with
          | some (pc1, lv1, st1, E1, dc, ds) => q_run call o nL ini cc ret n pc1 lv1 st1 E1 (c0 + dc) (s0 + ds)
          | none => none
theorem q_run_mono {call : Nat → List Value → q_H → Option q_X} {o nL : Nat} {ini : Bool} {cc : ByteArray} {ret : Option FieldType} {x : q_X} : ∀ (n pc : Nat) (lv : q_L) (st : List Value) (E : q_H) (c0 s0 : Nat), q_run call o nL ini cc ret n pc lv st E c0 s0 = some x → c0 ≤ x.2.2.1 ∧ s0 ≤ x.2.2.2 := by
  intro n
  induction n with
  | zero => intro pc lv st E c0 s0 h; cases h
  | succ n ih =>
    intro pc lv st E c0 s0 h
    unfold q_run at h
    simp only [q_nf_eq] at h
    split at h
    · cases h
    · split at h
      · cases h
        exact ⟨Nat.le_refl _, Nat.le_refl _⟩
      · split at h
        · have := ih _ _ _ _ _ _ h
          omega
        · split at h
          · have := ih _ _ _ _ _ _ h
            omega
          · cases h
/-- a call of method y, d levels deep at most, each of F steps at most -/
def q_callf (F : Nat) : Nat → Nat → List Value → q_H → Option q_X
  | 0, _, _, _ => none
  | d + 1, y, as, E => q_if (decide ((lg_sl as).length ≤ q_maxL y) && decide (as.length = q_na y + (bif q_stat y then 0 else 1))) (q_fc (lv_args 0 as) fun lv => q_nf (q_own y) fun o => q_nf (q_maxL y) fun nL => q_run (q_callf F d) o nL (q_ini y) (q_code y) (q_ret y) F 0 lv [] E 0 0)
/-! its meaning: contracts -/
def q_wsm (y : Nat) : List Cond := .code (q_y y) (q_code y) (q_maxL y) (q_ret y) :: q_big
def q_rm (d mc ms : Nat) : Room := { frames := d + 3, cells := mc, slots := ms, locals := 40 * d + 100 }
def q_Pre (D : va_G) (b0 : Nat) (ad : Nat → Nat) (cy : Nat → ClassId) (E : q_H) (U : State) : Prop := q_W D b0 (q_c (q_rho b0 ad) cy) E U.heap ∧ va_K D vwCl (q_tys cy) U ∧ q_T ad U ∧ q_SF ad b0 U U.heap
def q_Qc (D : va_G) (b0 : Nat) (ad : Nat → Nat) (cy : Nat → ClassId) (v : Option Value) (E : q_H) : Array Value → State → Outcome → State → Prop := fun _ st oc t => oc = .returned (v.map (q_v (q_rho b0 ad))) ∧ q_W D b0 (q_c (q_rho b0 ad) cy) E t.heap ∧ va_F (fun q => b0 ≤ q) st t
def q_Met (l : Launch) (D : va_G) (b0 : Nat) (ad : Nat → Nat) (cy : Nat → ClassId) (d y : Nat) (as : List Value) (E : q_H) (x : q_X) : Prop :=
  Met l (q_y y) (q_wsm y) (q_rm d x.2.2.1 x.2.2.2) (va_Pc (as.map (q_v (q_rho b0 ad))) (q_Pre D b0 ad cy E)) (q_Qc D b0 ad cy x.1 x.2.1) x.2.2.1 x.2.2.2 (fun q => b0 ≤ q)
theorem q_T.warm {ad : Nat → Nat} {s U : State} (hW : s.WarmedH U.vm) (h : q_T ad s) : q_T ad U := by
  obtain ⟨h1, h2, h3, h4, h7⟩ := h
  refine ⟨fun w hw => ?_, fun q hq => vk_R.warm hW (h2 q hq), va_AO.moved hW.alike h3, va_AO.moved hW.alike h4, q_AOA.moved hW.alike h7⟩
  have h5 := h1 w hw
  have h6 := (List.mem_filter.mp hw).2
  unfold q_isN at h6
  split at h6
  · exact va_Nw.warmF hW h5
  · exact va_Nw.warmM hW h5
  · cases h6
theorem q_T.same {ad : Nat → Nat} {s U : State} (hv : U.vm = s.vm) (h : q_T ad s) : q_T ad U := by
  obtain ⟨h1, h2, h3, h4, h7⟩ := h
  have ha : s.vm.Alike U.vm := by rw [hv]; exact Vm.Alike.refl _
  refine ⟨fun w hw => ?_, fun q hq => vk_R.same hv (h2 q hq), va_AO.moved ha h3, va_AO.moved ha h4, q_AOA.moved ha h7⟩
  have h5 := h1 w hw
  have h6 := (List.mem_filter.mp hw).2
  unfold q_isN at h6
  split at h6
  · exact va_Nw.same rfl hv.symm h5
  · exact va_Nw.same rfl hv.symm h5
  · cases h6
theorem q_blind {D : va_G} {b0 : Nat} {ad : Nat → Nat} {cy : Nat → ClassId} {E : q_H} {vs : List Value} : FrameBlind (va_Pc vs (q_Pre D b0 ad cy E)) := fun a U g mk h => by
  obtain ⟨h0, h1, h2, h3, h4⟩ := h
  exact ⟨h0, h1, va_K.moved (u := U) (U := U.calling g mk a) (Vm.Alike.refl U.vm) h2, q_T.same (s := U) (U := U.calling g mk a) rfl h3, q_SF.moved (u := U) (U := U.calling g mk a) (Vm.Alike.refl U.vm) h4⟩
theorem q_GoodIn (y y' : Nat) (h : q_mOK y') : GoodIn (q_wsm y) (q_wsm y') := by
  intro w hw
  rcases List.mem_cons.mp hw with rfl | hw
  · exact ⟨List.mem_cons_of_mem _ (q_mem h.2.1 rfl), good_of_word rfl⟩
  · exact ⟨List.mem_cons_of_mem _ hw, good_of_word (List.mem_filter.mp hw).2⟩
section QR
variable {p : Program} {l : Launch} {e : Env} {R : Room} {s : State} {m : MethodId} {args : Array Value} {below : List Frame} {meth : Method} {c : Code} {Q : State → Prop} {H0 H : Heap} {D : va_G} {b0 : Nat} {ad : Nat → Nat} {cy : Nat → ClassId} {cc : ByteArray} {nL o : Nat} {locs : List Loc} {cells slots : Nat} {ls : Array Slot} {pc : Nat} {E E' : q_H}
theorem q_after {v : Option Value} {A : Array Value} {mc ms : Nat} {st0 rest : List Value} (hr : va_Run p l e R s m args below meth c H locs cells slots mc ms (F0 m pc ls st0) rest (q_Qc D b0 ad cy v E' A) (fun q => b0 ≤ q)) (hS : va_S (fun q => b0 ≤ q) H0 H locs) (kk : ∀ (H1 : Heap) (locs1 : List Loc), q_W D b0 (q_c (q_rho b0 ad) cy) E' H1 → va_S (fun q => b0 ≤ q) H0 H1 locs1 → W p l e R s m args below meth c H1 locs1 (cells + mc) (slots + ms) Q (F0 m (pc + 3) ls ((v.map (q_v (q_rho b0 ad))).toList ++ rest))) : W p l e R s m args below meth c H locs cells slots Q (F0 m pc ls st0) := by
  intro T hT X
  obtain ⟨w, st₀, t, T', L, h0, X', hL, e1, e2, ⟨hv, hb, hz, hk⟩, st⟩ := hr T hT X
  cases hv
  rw [h0] at hz hk
  obtain ⟨t2, a1, b1⟩ := kk T'.heap (locs ++ L) (by rw [e1]; exact hb)
    ⟨Nat.le_trans hS.1 (by rw [e1]; exact hz), fun q h1 h2 => by rw [e1, hk q (Nat.lt_of_lt_of_le h1 hS.1) h2]; exact hS.2.1 q h1 h2, fun q hq => by
      rcases List.mem_append.mp hq with h | h
      · exact hS.2.2 q h
      · exact hL q h⟩ T' rfl X'
  exact ⟨t2, st t2 a1, b1⟩
theorem q_ret_ok {ret : Option FieldType} {v : Option Value} {ins : Instr} {len : Nat} {st : List Value} (hx : p.tables.exec = Jvm.exec) (hb : c.code = cc) (hr : meth.sig.returnType = ret) (hlocks : meth.locks = false) (hdg : decode cc pc = .ok (ins, len)) (h : q_rets ret ins len st = some v) (hw : q_W D b0 (q_c (q_rho b0 ad) cy) E H) (hS : va_S (fun q => b0 ≤ q) s.heap H locs) : W p l e R s m args below meth c H locs cells slots (MQ below (q_Qc D b0 ad cy v E) args s cells slots (fun q => b0 ≤ q)) (F0 m pc ls (st.map (q_v (q_rho b0 ad)))) := by
  have hq : ∀ (u : Option Value), u = v.map (q_v (q_rho b0 ad)) → ∀ t : State, t.heap = H → s.WarmedH t.vm → q_Qc D b0 ad cy v E args s (.returned u) t := fun u hu t ht _ => ⟨by rw [hu], by rw [ht]; exact hw, hS.F ht⟩
  unfold q_rets at h
  split at h
  · have e1 := eq_of_beq (q_if_s h).1
    replace h := (q_if_s h).2
    subst e1
    split at h
    · cases h
      exact W.vret hx hb hr (hq none rfl) hS.2.2 hdg hlocks
    · cases h
  · have e1 := eq_of_beq (q_if_s h).1
    replace h := (q_if_s h).2
    subst e1
    split at h
    · have e2 := (q_if_s h).1
      replace h := (q_if_s h).2
      cases h
      rename_i ty x
      exact W.zret hx hb hr (q_nar_s e2) (hq _ rfl) hS.2.2 hdg hlocks
    · cases h
  · have e1 := eq_of_beq (q_if_s h).1
    replace h := (q_if_s h).2
    subst e1
    split at h
    · cases h
      exact W.aret hx hb hr (Or.inl ⟨_, rfl⟩) (Or.inr ⟨_, rfl⟩) (hq _ rfl) hS.2.2 hdg hlocks
    · cases h
      exact W.aret hx hb hr (Or.inl ⟨_, rfl⟩) (Or.inl rfl) (hq _ rfl) hS.2.2 hdg hlocks
    · cases h
      exact W.aret hx hb hr (Or.inr ⟨_, rfl⟩) (Or.inr ⟨_, rfl⟩) (hq _ rfl) hS.2.2 hdg hlocks
    · cases h
      exact W.aret hx hb hr (Or.inr ⟨_, rfl⟩) (Or.inl rfl) (hq _ rfl) hS.2.2 hdg hlocks
    · cases h
  · cases h
theorem q_pre {y d : Nat} {as : List Value} {x : q_X} (hK : va_K D vwCl (q_tys cy) s) (hT : q_T ad s) (hF : q_SF ad b0 s s.heap) (hS : va_S (fun q => b0 ≤ q) s.heap H locs) (hw : q_W D b0 (q_c (q_rho b0 ad) cy) E H) : PreS s H (va_Pc (as.map (q_v (q_rho b0 ad))) (q_Pre D b0 ad cy E)) (as.map (q_v (q_rho b0 ad))) :=
  ⟨q_blind, fun U hU hW => ⟨rfl, by rw [hU]; exact hw, va_K.moved hW.alike hK, hT.warm hW, by rw [hU]; exact (hF.kept hS.2.1).moved hW.alike⟩⟩
theorem q_cl_ok {y0 d dc ds : Nat} {call : Nat → List Value → q_H → Option q_X} {ins : Instr} {len : Nat} {st rest : List Value} {v : Option Value} {lv : q_L} (hx : p.tables.exec = Jvm.exec) (hb : c.code = q_code y0) (hml : c.maxLocals = q_maxL y0) (hown : s.vm.findClass (q_R (q_own y0)) = some m.cls) (hts : ∀ w ∈ q_wsm y0, w.before args s = true) (hT : q_T ad s) (hK : va_K D vwCl (q_tys cy) s) (hcall : ∀ y as E x, q_mOK y → call y as E = some x → q_Met l D b0 ad cy d y as E x) (hF : q_SF ad b0 s s.heap) (hH : H0 = s.heap) (hRf : R.frames = d + 4) (hRl : R.locals = 40 * (d + 1) + 100) (hdg : decode (q_code y0) pc = .ok (ins, len)) (h : q_cl call (q_own y0) ins len st E = some (v, rest, E', dc, ds)) (hc : cells + dc ≤ R.cells) (hs : slots + ds ≤ R.slots) (hw : q_W D b0 (q_c (q_rho b0 ad) cy) E H) (hl : lv_has ls (q_maxL y0) (q_ml (q_rho b0 ad) lv)) (hS : va_S (fun q => b0 ≤ q) H0 H locs) (kk : ∀ (H1 : Heap) (locs1 : List Loc), q_W D b0 (q_c (q_rho b0 ad) cy) E' H1 → va_S (fun q => b0 ≤ q) H0 H1 locs1 → W p l e R s m args below meth c H1 locs1 (cells + dc) (slots + ds) Q (F0 m (pc + 3) ls ((v.toList ++ rest).map (q_v (q_rho b0 ad))))) : W p l e R s m args below meth c H locs cells slots Q (F0 m pc ls (st.map (q_v (q_rho b0 ad)))) := by
  subst hH
  have htb : ∀ w ∈ q_big, w.before args s = true := fun w h => hts w (List.mem_cons_of_mem _ h)
  have kk2 : ∀ (H1 : Heap) (locs1 : List Loc), q_W D b0 (q_c (q_rho b0 ad) cy) E' H1 → va_S (fun q => b0 ≤ q) s.heap H1 locs1 → W p l e R s m args below meth c H1 locs1 (cells + dc) (slots + ds) Q (F0 m (pc + 3) ls ((v.map (q_v (q_rho b0 ad))).toList ++ rest.map (q_v (q_rho b0 ad)))) := fun H1 locs1 a b => by
    have := kk H1 locs1 a b
    rw [List.map_append] at this
    cases v <;> exact this
  unfold q_cl at h
  obtain ⟨ki, hki, hA⟩ := q_bind_s h
  clear h
  obtain ⟨q, hq, hB⟩ := q_bind_s hA
  clear hA
  simp only [q_nf_eq, q_fc_eq] at hB
  have e1 := (q_if_s hB).1
  have h := (q_if_s hB).2
  clear hB
  simp only [Bool.and_eq_true, beq_iff_eq, decide_eq_true_eq] at e1
  obtain ⟨e1, hlen⟩ := e1
  subst e1
  obtain ⟨hm, hlink⟩ := q_cal_s hq
  obtain ⟨m1, m2, m3, m4, m5, m6, m7, m8, m9, m10⟩ := id hm
  have hini : (Cond.initialized (q_y q.1).cls).before args s = true := htb _ (q_mem m4 rfl)
  have hG := q_GoodIn y0 q.1 hm
  have hst : st = (st.take (q_na q.1)).reverse.reverse ++ st.drop (q_na q.1) := by rw [List.reverse_reverse, List.take_append_drop]
  have hln : ((st.take (q_na q.1)).reverse.map (q_v (q_rho b0 ad))).length = q_na q.1 := by
    rw [List.length_map, List.length_reverse, List.length_take]
    omega
  by_cases hk0 : (ki.1 == 0) = true
  · rw [hk0] at h
    obtain ⟨ki1, ki2⟩ := ki
    have e0 : ki1 = 0 := by simpa using hk0
    subst e0
    have e2 := (q_if_s (show q_if _ _ = some _ from h)).1
    have h2 := (q_if_s (show q_if _ _ = some _ from h)).2
    simp only [Bool.and_eq_true, decide_eq_true_eq] at e2
    obtain ⟨e2, e3⟩ := e2
    obtain ⟨x, hx1, hx2⟩ := Option.map_eq_some_iff.mp h2
    cases hx2
    have hM := hcall _ _ _ _ hm hx1
    have hd : decode (q_code y0) pc = .ok (.invokestatic ki2, 3) := by
      cases ins <;> first | (cases hki; done) | skip
      all_goals cases hki
      exact hdg
    have hstk : (F0 m pc ls (st.map (q_v (q_rho b0 ad)))).stack = ((st.take (q_na q.1)).reverse.map (q_v (q_rho b0 ad))).reverse ++ (st.drop (q_na q.1)).map (q_v (q_rho b0 ad)) := by
      show st.map _ = _
      rw [← List.map_reverse, List.reverse_reverse, ← List.map_append, List.take_append_drop]
    have h8 : 2 * (F0 m pc ls (st.map (q_v (q_rho b0 ad)))).monitorRoom + (((st.drop (q_na q.1)).map (q_v (q_rho b0 ad))).map fun v => v.category).sum ≤ 8 := by
      rw [q_sum_cat]
      show 2 * 0 + _ ≤ 8
      omega
    rcases hlink with ⟨hz, hl2⟩ | ⟨hz, hl2⟩
    · exact q_after (va_runS (As := (st.take (q_na q.1)).reverse.map (q_v (q_rho b0 ad))) ⟨hx, hb, hml, hown, hts⟩ hM ⟨callB_of (q_na q.1) hts hG rfl rfl rfl hini (htb _ (q_mem hl2 rfl)) m9 ⟨by rw [hRf]; exact Nat.le_refl _, by rw [hRl]; show 8 + (_ + 11) + (40 * d + 100) ≤ _; omega⟩, htb _ (q_mem (m5 e2) rfl)⟩ (q_pre (y := q.1) (d := d) (x := x) hK hT hF hS hw) rfl hln hl.1 hstk h8 hd ⟨hc, hs⟩) hS kk2
    · exact q_after (va_runSN (As := (st.take (q_na q.1)).reverse.map (q_v (q_rho b0 ad))) ⟨hx, hb, hml, hown, hts⟩ hM ⟨va_cnB (q_na q.1) hts hG rfl rfl rfl (hT.1 _ (q_memN hl2 rfl)) hini m9 ⟨by rw [hRf]; exact Nat.le_refl _, by rw [hRl]; show 8 + (_ + 11) + (40 * d + 100) ≤ _; omega⟩, htb _ (q_mem (m5 e2) rfl), trivial⟩ (q_pre (y := q.1) (d := d) (x := x) hK hT hF hS hw) rfl hln hl.1 hstk h8 hd ⟨hc, hs⟩) hS kk2
  · have hk1 : (ki.1 == 0) = false := by simpa using hk0
    rw [hk1] at h
    obtain ⟨a, r, hr, h2⟩ := q_pr_s (show q_pr _ _ = some _ from h)
    have e2 := (q_if_s h2).1
    have h3 := (q_if_s h2).2
    simp only [Bool.and_eq_true, Bool.not_eq_true', decide_eq_true_eq, beq_iff_eq, Bool.or_eq_true] at e2
    obtain ⟨⟨⟨⟨e2, e3⟩, e4⟩, e5⟩, e6⟩ := e2
    obtain ⟨x, hx1, hx2⟩ := Option.map_eq_some_iff.mp h3
    cases hx2
    have hM := hcall _ _ _ _ hm hx1
    have hra : q_v (q_rho b0 ad) (.ref a) = .ref (q_rho b0 ad a) := rfl
    have hM2 : Met l (q_y q.1) (q_wsm q.1) (q_rm d x.2.2.1 x.2.2.2) (va_Pc (.ref (q_rho b0 ad a) :: (st.take (q_na q.1)).reverse.map (q_v (q_rho b0 ad))) (q_Pre D b0 ad cy E)) (q_Qc D b0 ad cy x.1 x.2.1) x.2.2.1 x.2.2.2 (fun q => b0 ≤ q) := by
      rw [← hra]
      exact hM
    have hstk : (F0 m pc ls (st.map (q_v (q_rho b0 ad)))).stack = ((st.take (q_na q.1)).reverse.map (q_v (q_rho b0 ad))).reverse ++ .ref (q_rho b0 ad a) :: rest.map (q_v (q_rho b0 ad)) := by
      show st.map _ = _
      rw [← List.map_reverse, List.reverse_reverse, ← hra, ← List.map_cons, ← hr, ← List.map_append, List.take_append_drop]
    have h8 : 2 * (F0 m pc ls (st.map (q_v (q_rho b0 ad)))).monitorRoom + ((rest.map (q_v (q_rho b0 ad))).map fun v => v.category).sum ≤ 8 := by
      rw [q_sum_cat]
      show 2 * 0 + _ ≤ 8
      omega
    have hpre : PreS s H (va_Pc (.ref (q_rho b0 ad a) :: (st.take (q_na q.1)).reverse.map (q_v (q_rho b0 ad))) (q_Pre D b0 ad cy E)) (.ref (q_rho b0 ad a) :: (st.take (q_na q.1)).reverse.map (q_v (q_rho b0 ad))) :=
      ⟨q_blind, fun U hU hW => ⟨rfl, by rw [hU]; exact hw, va_K.moved hW.alike hK, hT.warm hW, by rw [hU]; exact (hF.kept hS.2.1).moved hW.alike⟩⟩
    have hrecv : ∃ cellB : Cell, H[q_rho b0 ad a]? = some cellB ∧ cellB.vm.isStatics = false ∧ s.vm.findClass (q_y q.1).cls = some cellB.cls := by
      unfold q_rcv at e5
      by_cases ho : q_own q.1 = 14
      · rw [ho] at e5
        have e5 : (a % 4 == 1 && decide (a / 4 < q_nS)) = true := e5
        simp only [Bool.and_eq_true, beq_iff_eq, decide_eq_true_eq] at e5
        obtain ⟨cell, z1, z2, z3, z4⟩ := (hF.2.2 _ e5.2).1
        have z5 : q_rho b0 ad a = ad (2 * (a / 4)) := Value.ref.inj (q_sref (b0 := b0) (ad := ad) e5.1)
        rw [z5, m3, ho]
        refine ⟨cell, ?_, z2, z3⟩
        rw [hS.2.1 _ (Array.getElem?_eq_some_iff.mp z1).1 z4]
        exact z1
      · rw [show (q_own q.1 == 14) = false by simpa using ho] at e5
        have e5 : (decide (q_own q.1 < 13) && (q_obj E a (q_own q.1)).isSome) = true := e5
        simp only [Bool.and_eq_true, decide_eq_true_eq] at e5
        obtain ⟨fs, hf⟩ := Option.isSome_iff_exists.mp e5.2
        obtain ⟨g1, g2⟩ := q_obj_s hf
        rw [m3, Value.ref.inj (q_ref0 (b0 := b0) (ad := ad) g1)]
        exact va_recv hK hw.2 (q_vw _ e5.1) (q_ws_at (b0 := b0) (G := q_c (q_rho b0 ad) cy) g2)
    have hR1 : (q_rm d x.2.2.1 x.2.2.2).frames + 1 ≤ R.frames ∧ 8 + (q_maxL q.1 + 11) + (q_rm d x.2.2.1 x.2.2.2).locals ≤ R.locals := ⟨by rw [hRf]; exact Nat.le_refl _, by rw [hRl]; show 8 + (_ + 11) + (40 * d + 100) ≤ _; omega⟩
    have hcase : (q_ini q.1 = false ∧ decode (q_code y0) pc = .ok (.invokevirtual ki.2, 3)) ∨ (q_ini q.1 = true ∧ decode (q_code y0) pc = .ok (.invokespecial ki.2, 3)) := by
      cases ins <;> first | (cases hki; done) | skip
      all_goals cases hki
      · exact Or.inr ⟨by simpa using e3, hdg⟩
      · exact absurd rfl hk0
      · exact Or.inl ⟨by simpa using e3, hdg⟩
    rcases hcase with ⟨hi, hd⟩ | ⟨hi, hd⟩
    · rcases hlink with ⟨hz, hl2⟩ | ⟨hz, hl2⟩
      · exact q_after (va_runV (C := (q_y q.1).cls) ⟨hx, hb, hml, hown, hts⟩ hM2 ⟨callB_of (q_na q.1) hts hG rfl rfl rfl hini (htb _ (q_mem hl2 rfl)) m9 hR1, htb _ (q_mem (m6 e2) rfl), htb _ (q_mem (m7 e2 hi) rfl)⟩ ⟨hpre.1, hrecv, hpre.2⟩ rfl hln hl.1 hstk h8 hd ⟨hc, hs⟩) hS kk2
      · exact q_after (va_runVN (C := (q_y q.1).cls) ⟨hx, hb, hml, hown, hts⟩ hM2 ⟨va_cnB (q_na q.1) hts hG rfl rfl rfl (hT.1 _ (q_memN hl2 rfl)) hini m9 hR1, htb _ (q_mem (m6 e2) rfl), htb _ (q_mem (m7 e2 hi) rfl)⟩ ⟨hpre.1, hrecv, hpre.2⟩ rfl hln hl.1 hstk h8 hd ⟨hc, hs⟩) hS kk2
    · have hrn : q_ret q.1 = none := by
        rcases e4 with e4 | e4
        · rw [hi] at e4
          cases e4
        · simpa using e4
      have hwm : q_wsm q.1 = Cond.code (q_y q.1) (q_code q.1) (q_maxL q.1) none :: q_big := by unfold q_wsm; rw [hrn]
      rcases hlink with ⟨hz, hl2⟩ | ⟨hz, hl2⟩
      · exact q_after (va_runI ⟨hx, hb, hml, hown, hts⟩ hM2 ⟨callB_of (q_na q.1) hts hG hwm rfl rfl hini (htb _ (q_mem hl2 rfl)) m9 hR1, m8 hi, htb _ (q_mem (m6 e2) rfl)⟩ hpre rfl hln hl.1 hstk h8 hd ⟨hc, hs⟩) hS kk2
      · exact q_after (va_runIN ⟨hx, hb, hml, hown, hts⟩ hM2 ⟨va_cnB (q_na q.1) hts hG hwm rfl rfl (hT.1 _ (q_memN hl2 rfl)) hini m9 hR1, m8 hi, htb _ (q_mem (m6 e2) rfl)⟩ hpre rfl hln hl.1 hstk h8 hd ⟨hc, hs⟩) hS kk2
theorem q_run_ok {y0 d : Nat} {call : Nat → List Value → q_H → Option q_X} (hx : p.tables.exec = Jvm.exec) (hb : c.code = q_code y0) (hml : c.maxLocals = q_maxL y0) (hr : meth.sig.returnType = q_ret y0) (hlocks : meth.locks = false) (hown : s.vm.findClass (q_R (q_own y0)) = some m.cls) (hts : ∀ w ∈ q_wsm y0, w.before args s = true) (hT : q_T ad s) (hK : va_K D vwCl (q_tys cy) s) (hF : q_SF ad b0 s s.heap) (hini : q_ini y0 = true → meth.name = "<init>") (hle : b0 ≤ s.heap.size) (hcall : ∀ y as E x, q_mOK y → call y as E = some x → q_Met l D b0 ad cy d y as E x) {v : Option Value} {mc ms : Nat} : ∀ (n pc : Nat) (lv : q_L) (st : List Value) (E : q_H) (cells slots : Nat), q_run call (q_own y0) (q_maxL y0) (q_ini y0) (q_code y0) (q_ret y0) n pc lv st E cells slots = some (v, E', mc, ms) → q_G p l e (q_rm (d + 1) mc ms) s m args below meth c (MQ below (q_Qc D b0 ad cy v E') args s mc ms (fun q => b0 ≤ q)) s.heap D b0 ad cy (q_maxL y0) pc lv st E cells slots := by
  have htb : ∀ w ∈ q_big, w.before args s = true := fun w h => hts w (List.mem_cons_of_mem _ h)
  intro n
  induction n with
  | zero =>
    intro pc lv st E cells slots h
    cases h
  | succ n ih =>
    intro pc lv st E cells slots h
    unfold q_run at h
    simp only [q_nf_eq] at h
    split at h
    · cases h
    · rename_i ins len hd
      split at h
      · rename_i w hr1
        cases h
        intro ls H locs hl hw hS
        exact q_ret_ok hx hb hr hlocks hd hr1 hw hS
      · rename_i hr1
        split at h
        · rename_i zv zr zE zc zs hc1
          have hm := q_run_mono _ _ _ _ _ _ _ h
          intro ls H locs hl hw hS
          refine q_cl_ok (R := q_rm (d + 1) mc ms) hx hb hml hown hts hT hK hcall hF rfl rfl rfl hd hc1 hm.1 hm.2 hw hl hS fun H1 locs1 hw1 hS1 => ?_
          exact ih _ _ _ _ _ _ h ls H1 locs1 hl hw1 hS1
        · rename_i hc1
          split at h
          · rename_i zp zl zt zE zc zs hs1
            have hm := q_run_mono _ _ _ _ _ _ _ h
            exact q_step_ok (R := q_rm (d + 1) mc ms) (o := q_own y0) hx hb hml hown htb hT hK ⟨by show 3 ≤ d + 4; omega, by show 100 ≤ 40 * (d + 1) + 100; omega⟩ hF rfl hini hle hd hs1 hm.1 hm.2 (ih _ _ _ _ _ _ h)
          · cases h
end QR
/-! the calls -/
theorem q_args_ml (F : Nat → Nat) : ∀ (vs : List Value) (i : Nat), lv_args i (vs.map (q_v F)) = q_ml F (lv_args i vs) := by
  intro vs
  induction vs with
  | nil => intro i; rfl
  | cons v vs ih =>
    intro i
    show (i, q_v F v) :: lv_args _ _ = (i, q_v F v) :: q_ml F (lv_args _ vs)
    rw [q_v_cat (F := F) (v := v) rfl, ih]
theorem q_sl_len (F : Nat → Nat) : ∀ (vs : List Value), (lg_sl (vs.map (q_v F))).length = (lg_sl vs).length := by
  intro vs
  induction vs with
  | nil => rfl
  | cons v vs ih =>
    unfold lg_sl at ih ⊢
    simp only [List.map_cons, List.flatMap_cons, List.length_append, ih]
    rw [q_v_cat (F := F) (v := v) rfl]
    split <;> rfl
set_option maxHeartbeats 1000000 in
theorem q_call_ok (l : Launch) (D : va_G) (b0 : Nat) (ad : Nat → Nat) (cy : Nat → ClassId) (F : Nat) : ∀ (d y : Nat) (as : List Value) (E : q_H) (x : q_X), q_mOK y → q_callf F d y as E = some x → q_Met l D b0 ad cy d y as E x := by
  intro d
  induction d with
  | zero =>
    intro y as E x _ h
    cases h
  | succ d ih =>
    intro y as E x hm h
    unfold q_callf at h
    have e1 := (q_if_s h).1
    replace h := (q_if_s h).2
    simp only [q_nf_eq, q_fc_eq] at h
    simp only [Bool.and_eq_true, decide_eq_true_eq] at e1
    obtain ⟨v, E', mc, ms⟩ := x
    refine Met.ofW (cc := q_code y) (maxL := q_maxL y) (ret := q_ret y) hm.1 rfl ?_
    intro p e s m args below meth c s₁ B hml hv
    obtain ⟨rfl, hw, hK, hT, hF⟩ := hv
    have hts := atoms_spec (ws := q_wsm y) B.pre
    have hown : s.vm.findClass (q_R (q_own y)) = some m.cls := by
      rw [← hm.2.2.1]
      exact findClass_of_methodNamed B.named
    have hini : q_ini y = true → meth.name = "<init>" := fun h => ((name_of_methodNamed B.named B.method).1).trans (hm.2.2.2.2.2.2.2.1 h)
    have hle : b0 ≤ s.heap.size := by rw [hw.1]; exact Nat.le_add_right _ _
    have hG := q_run_ok (p := p) (l := l) (e := e) (s := s) (m := m) (args := (as.map (q_v (q_rho b0 ad))).toArray) (below := below) (meth := meth) (c := c) (y0 := y) (d := d) (mc := mc) (ms := ms) (cy := cy) (D := D) B.exec B.bytes hml B.returns B.notSynchronized hown hts hT hK hF hini hle (fun y' as' E1 x' h1 h2 => ih y' as' E1 x' h1 h2) F 0 _ _ _ 0 0 h
    have hl := lv_entry (as.map (q_v (q_rho b0 ad))) (n := q_maxL y) (by rw [q_sl_len]; exact e1.1)
    rw [q_args_ml] at hl
    rw [lg_entry_eq]
    exact hG _ _ _ hl hw va_S.rf
end
section
/-! heaps compared -/
def q_eqE (a b : q_E) : Bool := match a, b with
  | .inl (t, n, .inl L), .inl (t1, n1, .inl L1) => decide (t = t1) && decide (n = n1) && decide (L = L1)
  | .inl (t, n, .inr L), .inl (t1, n1, .inr L1) => decide (t = t1) && decide (n = n1) && decide (L = L1)
  | .inr (c, fs), .inr (c1, fs1) => decide (c = c1) && decide (fs = fs1)
  | _, _ => false
theorem q_eqE_s {a b : q_E} (h : q_eqE a b = true) : a = b := by
  unfold q_eqE at h
  split at h
  · simp only [Bool.and_eq_true, decide_eq_true_eq] at h
    obtain ⟨⟨rfl, rfl⟩, rfl⟩ := h
    rfl
  · simp only [Bool.and_eq_true, decide_eq_true_eq] at h
    obtain ⟨⟨rfl, rfl⟩, rfl⟩ := h
    rfl
  · simp only [Bool.and_eq_true, decide_eq_true_eq] at h
    obtain ⟨rfl, rfl⟩ := h
    rfl
  · cases h
def q_eqH : q_H → q_H → Bool
  | [], [] => true
  | a :: l, b :: m => q_eqE a b && q_eqH l m
  | _, _ => false
theorem q_eqH_s : ∀ {l m : q_H}, q_eqH l m = true → l = m := by
  intro l
  induction l with
  | nil =>
    intro m h
    cases m with
    | nil => rfl
    | cons b m => cases h
  | cons a l ih =>
    intro m h
    cases m with
    | nil => cases h
    | cons b m =>
      have h2 : (q_eqE a b && q_eqH l m) = true := h
      simp only [Bool.and_eq_true] at h2
      rw [q_eqE_s h2.1, ih h2.2]
def q_eqX (x : Option q_X) (v : Option Value) (E : q_H) (c s : Nat) : Bool := match x with
  | some (v1, E1, c1, s1) => decide (v1 = v) && q_eqH E1 E && decide (c1 = c) && decide (s1 = s)
  | none => false
theorem q_eqX_s {x : Option q_X} {v : Option Value} {E : q_H} {c s : Nat} (h : q_eqX x v E c s = true) : x = some (v, E, c, s) := by
  unfold q_eqX at h
  split at h
  · simp only [Bool.and_eq_true, decide_eq_true_eq] at h
    obtain ⟨⟨⟨rfl, h2⟩, rfl⟩, rfl⟩ := h
    rw [q_eqH_s h2]
  · cases h
def p_E0 : q_H := [.inr (11, (List.range 19).map (fun j => defaultValue (q_Ty 11 j)))]
def p_EH : q_H := [
  .inr (11, [.ref 4, .ref 8, .ref 12, .ref 14, .ref 22, .ref 34, .ref 74, .ref 90, .ref 96, .ref 102, .ref 444, .ref 446, .int 0, .int 0, .int 0, .int 0, .ref 104, .int 0, .int 0]),
  .inr (7, [.ref 4, .ref 6, .int 0]),
  .inl (0, 246408, .inl [(2, 3), (0, 10)]),
  .inl (1, 256, .inl []),
  .inr (4, [.ref 10, .int 0, .int 8000, .int 0]),
  .inl (0, 8000, .inl []),
  .inr (6, [.ref 4, .int 0, .int 0]),
  .inr (2, [.ref 2, .ref 4, .ref 16, .int 0, .int 0, .int 0]),
  .inr (5, [.null, .ref 18, .ref 20, .int 0, .int 0]),
  .inl (1, 8, .inl []),
  .inl (1, 8, .inl []),
  .inr (1, [.ref 4, .ref 24, .ref 30, .ref 32, .int 0, .int 0, .int 0, .int 0, .int 0]),
  .inr (5, [.null, .ref 26, .ref 28, .int 0, .int 0]),
  .inl (1, 8, .inl []),
  .inl (1, 8, .inl []),
  .inl (1, 10, .inl []),
  .inr (4, [.ref 4, .int 163608, .int 163608, .int 0]),
  .inr (9, [.ref 2, .ref 4, .ref 36, .ref 42, .ref 48, .ref 50, .ref 52, .ref 54, .ref 56, .ref 58, .ref 60, .ref 62, .ref 72, .null, .int 0, .int 0, .int 0, .int 0, .int 0, .int 0]),
  .inr (5, [.null, .ref 38, .ref 40, .int 0, .int 0]),
  .inl (1, 8, .inl []),
  .inl (1, 8, .inl []),
  .inr (5, [.null, .ref 44, .ref 46, .int 0, .int 0]),
  .inl (1, 8, .inl []),
  .inl (1, 8, .inl []),
  .inr (4, [.ref 4, .int 82808, .int 82808, .int 0]),
  .inr (4, [.ref 4, .int 163608, .int 163608, .int 0]),
  .inl (1, 200, .inl []),
  .inl (1, 200, .inl []),
  .inl (1, 200, .inl []),
  .inl (1, 200, .inl []),
  .inl (1, 200, .inl []),
  .inl (5, 4, .inr [(0, 64), (1, 66), (2, 68), (3, 70)]),
  .inl (1, 200, .inl []),
  .inl (1, 200, .inl []),
  .inl (1, 200, .inl []),
  .inl (1, 200, .inl []),
  .inl (1, 4, .inl []),
  .inr (0, [.ref 2, .ref 4, .ref 76, .ref 88, .int 0, .int 0]),
  .inl (5, 5, .inr [(0, 78), (1, 80), (2, 82), (3, 84), (4, 86)]),
  .inl (1, 2800, .inl []),
  .inl (1, 2800, .inl []),
  .inl (1, 2800, .inl []),
  .inl (1, 2800, .inl []),
  .inl (1, 2800, .inl []),
  .inl (1, 5, .inl []),
  .inr (5, [.null, .ref 92, .ref 94, .int 0, .int 0]),
  .inl (1, 8, .inl []),
  .inl (1, 8, .inl []),
  .inr (5, [.null, .ref 98, .ref 100, .int 0, .int 0]),
  .inl (1, 8, .inl []),
  .inl (1, 8, .inl []),
  .inl (4, 2, .inr [(1, 274), (0, 104)]),
  .inr (8, [.ref 4, .int 2008, .ref 106, .ref 108, .ref 112, .ref 110, .int 0, .int 0, .int 0, .int 2008]),
  .inl (1, 200, .inl []),
  .inl (1, 200, .inl []),
  .inr (4, [.ref 4, .int 82808, .int 82808, .int 0]),
  .inl (3, 4, .inr [(3, 234), (2, 194), (1, 154), (0, 114)]),
  .inr (3, [.ref 2, .ref 4, .ref 116, .ref 122, .ref 128, .ref 150, .ref 152, .int 0, .int 0, .int 0, .int 0, .int 0, .int 0, .int 0]),
  .inr (5, [.null, .ref 118, .ref 120, .int 0, .int 0]),
  .inl (1, 8, .inl []),
  .inl (1, 8, .inl []),
  .inr (5, [.null, .ref 124, .ref 126, .int 0, .int 0]),
  .inl (1, 8, .inl []),
  .inl (1, 8, .inl []),
  .inr (10, [.ref 130, .ref 132, .ref 134, .int 0, .ref 136, .ref 138, .ref 140, .ref 142, .ref 144, .int 0, .ref 146, .ref 148, .int 0, .int 0, .int 0, .int 0, .int 0, .int 0, .int 0]),
  .inl (0, 0, .inl []),
  .inl (1, 0, .inl []),
  .inl (1, 0, .inl []),
  .inl (1, 0, .inl []),
  .inl (1, 0, .inl []),
  .inl (1, 0, .inl []),
  .inl (2, 0, .inl []),
  .inl (1, 0, .inl []),
  .inl (1, 16, .inl []),
  .inl (1, 16, .inl []),
  .inl (1, 700, .inl []),
  .inl (1, 700, .inl []),
  .inr (3, [.ref 2, .ref 4, .ref 156, .ref 162, .ref 168, .ref 190, .ref 192, .int 0, .int 0, .int 0, .int 0, .int 0, .int 0, .int 0]),
  .inr (5, [.null, .ref 158, .ref 160, .int 0, .int 0]),
  .inl (1, 8, .inl []),
  .inl (1, 8, .inl []),
  .inr (5, [.null, .ref 164, .ref 166, .int 0, .int 0]),
  .inl (1, 8, .inl []),
  .inl (1, 8, .inl []),
  .inr (10, [.ref 170, .ref 172, .ref 174, .int 0, .ref 176, .ref 178, .ref 180, .ref 182, .ref 184, .int 0, .ref 186, .ref 188, .int 0, .int 0, .int 0, .int 0, .int 0, .int 0, .int 0]),
  .inl (0, 0, .inl []),
  .inl (1, 0, .inl []),
  .inl (1, 0, .inl []),
  .inl (1, 0, .inl []),
  .inl (1, 0, .inl []),
  .inl (1, 0, .inl []),
  .inl (2, 0, .inl []),
  .inl (1, 0, .inl []),
  .inl (1, 16, .inl []),
  .inl (1, 16, .inl []),
  .inl (1, 700, .inl []),
  .inl (1, 700, .inl []),
  .inr (3, [.ref 2, .ref 4, .ref 196, .ref 202, .ref 208, .ref 230, .ref 232, .int 0, .int 0, .int 0, .int 0, .int 0, .int 0, .int 0]),
  .inr (5, [.null, .ref 198, .ref 200, .int 0, .int 0]),
  .inl (1, 8, .inl []),
  .inl (1, 8, .inl []),
  .inr (5, [.null, .ref 204, .ref 206, .int 0, .int 0]),
  .inl (1, 8, .inl []),
  .inl (1, 8, .inl []),
  .inr (10, [.ref 210, .ref 212, .ref 214, .int 0, .ref 216, .ref 218, .ref 220, .ref 222, .ref 224, .int 0, .ref 226, .ref 228, .int 0, .int 0, .int 0, .int 0, .int 0, .int 0, .int 0]),
  .inl (0, 0, .inl []),
  .inl (1, 0, .inl []),
  .inl (1, 0, .inl []),
  .inl (1, 0, .inl []),
  .inl (1, 0, .inl []),
  .inl (1, 0, .inl []),
  .inl (2, 0, .inl []),
  .inl (1, 0, .inl []),
  .inl (1, 16, .inl []),
  .inl (1, 16, .inl []),
  .inl (1, 700, .inl []),
  .inl (1, 700, .inl []),
  .inr (3, [.ref 2, .ref 4, .ref 236, .ref 242, .ref 248, .ref 270, .ref 272, .int 0, .int 0, .int 0, .int 0, .int 0, .int 0, .int 0]),
  .inr (5, [.null, .ref 238, .ref 240, .int 0, .int 0]),
  .inl (1, 8, .inl []),
  .inl (1, 8, .inl []),
  .inr (5, [.null, .ref 244, .ref 246, .int 0, .int 0]),
  .inl (1, 8, .inl []),
  .inl (1, 8, .inl []),
  .inr (10, [.ref 250, .ref 252, .ref 254, .int 0, .ref 256, .ref 258, .ref 260, .ref 262, .ref 264, .int 0, .ref 266, .ref 268, .int 0, .int 0, .int 0, .int 0, .int 0, .int 0, .int 0]),
  .inl (0, 0, .inl []),
  .inl (1, 0, .inl []),
  .inl (1, 0, .inl []),
  .inl (1, 0, .inl []),
  .inl (1, 0, .inl []),
  .inl (1, 0, .inl []),
  .inl (2, 0, .inl []),
  .inl (1, 0, .inl []),
  .inl (1, 16, .inl []),
  .inl (1, 16, .inl []),
  .inl (1, 700, .inl []),
  .inl (1, 700, .inl []),
  .inr (8, [.ref 4, .int 42408, .ref 276, .ref 278, .ref 282, .ref 280, .int 0, .int 0, .int 0, .int 42408]),
  .inl (1, 200, .inl []),
  .inl (1, 200, .inl []),
  .inr (4, [.ref 4, .int 82808, .int 82808, .int 0]),
  .inl (3, 4, .inr [(3, 404), (2, 364), (1, 324), (0, 284)]),
  .inr (3, [.ref 2, .ref 4, .ref 286, .ref 292, .ref 298, .ref 320, .ref 322, .int 0, .int 0, .int 0, .int 0, .int 0, .int 0, .int 0]),
  .inr (5, [.null, .ref 288, .ref 290, .int 0, .int 0]),
  .inl (1, 8, .inl []),
  .inl (1, 8, .inl []),
  .inr (5, [.null, .ref 294, .ref 296, .int 0, .int 0]),
  .inl (1, 8, .inl []),
  .inl (1, 8, .inl []),
  .inr (10, [.ref 300, .ref 302, .ref 304, .int 0, .ref 306, .ref 308, .ref 310, .ref 312, .ref 314, .int 0, .ref 316, .ref 318, .int 0, .int 0, .int 0, .int 0, .int 0, .int 0, .int 0]),
  .inl (0, 0, .inl []),
  .inl (1, 0, .inl []),
  .inl (1, 0, .inl []),
  .inl (1, 0, .inl []),
  .inl (1, 0, .inl []),
  .inl (1, 0, .inl []),
  .inl (2, 0, .inl []),
  .inl (1, 0, .inl []),
  .inl (1, 16, .inl []),
  .inl (1, 16, .inl []),
  .inl (1, 700, .inl []),
  .inl (1, 700, .inl []),
  .inr (3, [.ref 2, .ref 4, .ref 326, .ref 332, .ref 338, .ref 360, .ref 362, .int 0, .int 0, .int 0, .int 0, .int 0, .int 0, .int 0]),
  .inr (5, [.null, .ref 328, .ref 330, .int 0, .int 0]),
  .inl (1, 8, .inl []),
  .inl (1, 8, .inl []),
  .inr (5, [.null, .ref 334, .ref 336, .int 0, .int 0]),
  .inl (1, 8, .inl []),
  .inl (1, 8, .inl []),
  .inr (10, [.ref 340, .ref 342, .ref 344, .int 0, .ref 346, .ref 348, .ref 350, .ref 352, .ref 354, .int 0, .ref 356, .ref 358, .int 0, .int 0, .int 0, .int 0, .int 0, .int 0, .int 0]),
  .inl (0, 0, .inl []),
  .inl (1, 0, .inl []),
  .inl (1, 0, .inl []),
  .inl (1, 0, .inl []),
  .inl (1, 0, .inl []),
  .inl (1, 0, .inl []),
  .inl (2, 0, .inl []),
  .inl (1, 0, .inl []),
  .inl (1, 16, .inl []),
  .inl (1, 16, .inl []),
  .inl (1, 700, .inl []),
  .inl (1, 700, .inl []),
  .inr (3, [.ref 2, .ref 4, .ref 366, .ref 372, .ref 378, .ref 400, .ref 402, .int 0, .int 0, .int 0, .int 0, .int 0, .int 0, .int 0]),
  .inr (5, [.null, .ref 368, .ref 370, .int 0, .int 0]),
  .inl (1, 8, .inl []),
  .inl (1, 8, .inl []),
  .inr (5, [.null, .ref 374, .ref 376, .int 0, .int 0]),
  .inl (1, 8, .inl []),
  .inl (1, 8, .inl []),
  .inr (10, [.ref 380, .ref 382, .ref 384, .int 0, .ref 386, .ref 388, .ref 390, .ref 392, .ref 394, .int 0, .ref 396, .ref 398, .int 0, .int 0, .int 0, .int 0, .int 0, .int 0, .int 0]),
  .inl (0, 0, .inl []),
  .inl (1, 0, .inl []),
  .inl (1, 0, .inl []),
  .inl (1, 0, .inl []),
  .inl (1, 0, .inl []),
  .inl (1, 0, .inl []),
  .inl (2, 0, .inl []),
  .inl (1, 0, .inl []),
  .inl (1, 16, .inl []),
  .inl (1, 16, .inl []),
  .inl (1, 700, .inl []),
  .inl (1, 700, .inl []),
  .inr (3, [.ref 2, .ref 4, .ref 406, .ref 412, .ref 418, .ref 440, .ref 442, .int 0, .int 0, .int 0, .int 0, .int 0, .int 0, .int 0]),
  .inr (5, [.null, .ref 408, .ref 410, .int 0, .int 0]),
  .inl (1, 8, .inl []),
  .inl (1, 8, .inl []),
  .inr (5, [.null, .ref 414, .ref 416, .int 0, .int 0]),
  .inl (1, 8, .inl []),
  .inl (1, 8, .inl []),
  .inr (10, [.ref 420, .ref 422, .ref 424, .int 0, .ref 426, .ref 428, .ref 430, .ref 432, .ref 434, .int 0, .ref 436, .ref 438, .int 0, .int 0, .int 0, .int 0, .int 0, .int 0, .int 0]),
  .inl (0, 0, .inl []),
  .inl (1, 0, .inl []),
  .inl (1, 0, .inl []),
  .inl (1, 0, .inl []),
  .inl (1, 0, .inl []),
  .inl (1, 0, .inl []),
  .inl (2, 0, .inl []),
  .inl (1, 0, .inl []),
  .inl (1, 16, .inl []),
  .inl (1, 16, .inl []),
  .inl (1, 700, .inl []),
  .inl (1, 700, .inl []),
  .inl (2, 200, .inl []),
  .inl (1, 200, .inl [])]
def p_EM : q_H := [
  .inr (12, [.ref 450, .ref 452, .int 0, .int 0, .int 0, .int 0, .int 0, .int 0, .int 0, .ref 454, .int 0, .int 0, .ref 456, .int 0, .int 0, .int 0, .int 0, .int 0, .ref 458, .int 0, .ref 460, .int 0, .ref 462, .int 0, .int 0, .int 0, .int 0, .int 0, .int 0, .int 0, .ref 464, .ref 466, .int 0, .int 0, .ref 468, .ref 470, .ref 472, .ref 474, .ref 476, .ref 478, .int 0, .int 0, .int 0, .int 0, .int 0, .ref 480, .ref 482, .int (-1), .ref 484, .ref 486, .ref 488, .ref 490, .ref 492, .ref 494, .ref 496, .int 0, .int 0, .ref 498, .ref 500, .ref 502, .ref 504, .int 0, .ref 506, .ref 508, .int 0, .int 0, .int 0, .int 0, .ref 510, .ref 512, .ref 514, .ref 516, .ref 518, .ref 520, .ref 522, .ref 524, .ref 526, .int 0]),
  .inl (0, 2706210, .inl [(2706200, 10)]),
  .inl (1, 2000, .inl []),
  .inl (1, 80000, .inl []),
  .inl (1, 12, .inl []),
  .inl (1, 200, .inl []),
  .inl (1, 200, .inl []),
  .inl (1, 200, .inl []),
  .inl (1, 200, .inl []),
  .inl (1, 200, .inl []),
  .inl (1, 800, .inl []),
  .inl (2, 8, .inl []),
  .inl (1, 8, .inl []),
  .inl (1, 16, .inl []),
  .inl (2, 16, .inl []),
  .inl (2, 16, .inl []),
  .inl (2, 12000, .inl []),
  .inl (1, 12000, .inl []),
  .inl (2, 4800, .inl [(4200, 1), (3600, 1), (3000, 1), (2400, 1), (1800, 1), (1200, 1), (600, 1), (0, 1)]),
  .inl (2, 4800, .inl [(4200, 1), (3600, 1), (3000, 1), (2400, 1), (1800, 1), (1200, 1), (600, 1), (0, 1)]),
  .inl (1, 4800, .inl [(4200, 0), (3600, 0), (3000, 0), (2400, 0), (1800, 0), (1200, 0), (600, 0), (0, 0)]),
  .inl (1, 48000, .inl []),
  .inl (1, 48000, .inl []),
  .inl (1, 8, .inl [(7, 0), (6, 0), (5, 0), (4, 0), (3, 0), (2, 0), (1, 0), (0, 0)]),
  .inl (1, 8, .inl [(7, 0), (6, 0), (5, 0), (4, 0), (3, 0), (2, 0), (1, 0), (0, 0)]),
  .inl (1, 6000, .inl []),
  .inl (1, 6000, .inl []),
  .inl (2, 6000, .inl []),
  .inl (2, 6000, .inl []),
  .inl (1, 200, .inl []),
  .inl (2, 200, .inl []),
  .inl (1, 2, .inl []),
  .inl (1, 2, .inl []),
  .inl (1, 2, .inl [(1, 1), (0, 1)]),
  .inl (1, 400, .inl []),
  .inl (1, 400, .inl []),
  .inl (2, 400, .inl []),
  .inl (2, 200, .inl []),
  .inl (2, 200, .inl []),
  .inl (1, 8, .inl [])]
end
section
/-! symbolic steps of the pure machine: nothing made, calls by their results -/
section SYM
variable {call : Nat → List Value → q_H → Option q_X} {o nL n pc pc1 len a idx ci k ns m t j y z F d : Nat} {ini b : Bool} {cc : ByteArray} {ret : Option FieldType} {lv lv1 : q_L} {st st1 r as fs : List Value} {E E1 : q_H} {ins : Instr} {x : q_X} {v w : Value} {i u : Int32} {L : List (Nat × Int32)} {LR : List (Nat × Nat)} {off : Int} {cd : ClassFile.Cond}
theorem q_sg (hd : decode cc pc = .ok (ins, len)) (h1 : q_rets ret ins len st = none) (h2 : q_cl call o ins len st E = none) (h3 : q_step o nL ini ins len pc lv st E = some (pc1, lv1, st1, E1, 0, 0)) (kk : q_run call o nL ini cc ret n pc1 lv1 st1 E1 0 0 = some x) : q_run call o nL ini cc ret (n + 1) pc lv st E 0 0 = some x := by
  unfold q_run
  simp only [q_nf_eq, hd, h1, h2, h3]
  exact kk
theorem q_sr {v : Option Value} (hd : decode cc pc = .ok (ins, len)) (h1 : q_rets ret ins len st = some v) : q_run call o nL ini cc ret (n + 1) pc lv st E 0 0 = some (v, E, 0, 0) := by
  unfold q_run
  simp only [q_nf_eq, hd, h1]
theorem q_cg {X : Option q_X} (h1 : (decide ((lg_sl as).length ≤ q_maxL y) && decide (as.length = q_na y + (bif q_stat y then 0 else 1))) = true) (h2 : q_run (q_callf F d) (q_own y) (q_maxL y) (q_ini y) (q_code y) (q_ret y) F 0 (lv_args 0 as) [] E 0 0 = X) : q_callf F (d + 1) y as E = X := by
  unfold q_callf
  simp only [q_nf_eq, q_fc_eq, h1]
  exact h2
theorem q_ob (h : E[a / 2]? = some (.inr (ci, fs))) (hz : (a % 2 == 0) = true) : q_obj E a ci = some fs := by
  unfold q_obj q_cell
  rw [hz, h]
  simp [q_if]
theorem q_ar (h : E[a / 2]? = some (.inl (t, m, .inl L))) (hz : (a % 2 == 0) = true) : q_arr E a = some (t, m, L) := by
  unfold q_arr q_cell
  rw [hz, h]
  rfl
theorem q_aR (h : E[a / 2]? = some (.inl (t, m, .inr LR))) (hz : (a % 2 == 0) = true) : q_arrR E a = some (t, m, LR) := by
  unfold q_arrR q_cell
  rw [hz, h]
  rfl
theorem q_s_get (hd : decode cc pc = .ok (.getfield idx, 3)) (h1 : q_sget o idx a = none) (hp : pc + 3 = pc1) (h2 : q_fld o idx = some (ci, k, ns)) (h3 : q_obj E a ci = some fs) (h4 : fs[k]? = some v) (kk : q_run call o nL ini cc ret n pc1 lv (v :: st) E 0 0 = some x) : q_run call o nL ini cc ret (n + 1) pc lv (.ref a :: st) E 0 0 = some x := by
  subst hp
  refine q_sg hd rfl rfl ?_ kk
  show q_el ((q_sget o idx a).bind fun v => some (pc + 3, lv, v :: st, E, 0, 0)) ((q_fld o idx).bind fun q => (q_obj E a q.1).bind fun fs => (fs[q.2.1]?).bind fun v => some (pc + 3, lv, v :: st, E, 0, 0)) = _
  rw [h1, h2]
  show ((q_obj E a ci).bind fun fs => (fs[k]?).bind fun v => some (pc + 3, lv, v :: st, E, 0, 0)) = _
  rw [h3]
  show ((fs[k]?).bind fun v => some (pc + 3, lv, v :: st, E, 0, 0)) = _
  rw [h4]
  rfl
theorem q_s_aal (hd : decode cc pc = .ok (.aaload, 1)) (hp : pc + 1 = pc1) (h2 : q_arrR E a = some (t, m, LR)) (h3 : (q_rt t && q_in i m) = true) (h4 : va_rf (q_lr LR i.toNatClampNeg) = v) (kk : q_run call o nL ini cc ret n pc1 lv (v :: st) E 0 0 = some x) : q_run call o nL ini cc ret (n + 1) pc lv (.int i :: .ref a :: st) E 0 0 = some x := by
  subst hp
  subst h4
  refine q_sg hd rfl rfl ?_ kk
  show ((q_arrR E a).bind fun q => q_if (q_rt q.1 && q_in i q.2.1) (some (pc + 1, lv, va_rf (q_lr q.2.2 i.toNatClampNeg) :: st, E, 0, 0))) = _
  rw [h2]
  show q_if (q_rt t && q_in i m) _ = _
  rw [h3]
  rfl
theorem q_s_ial (hd : decode cc pc = .ok (.iaload, 1)) (hp : pc + 1 = pc1) (h2 : q_arr E a = some (1, m, L)) (h3 : q_in i m = true) (h4 : q_lk L i.toNatClampNeg = u) (kk : q_run call o nL ini cc ret n pc1 lv (.int u :: st) E 0 0 = some x) : q_run call o nL ini cc ret (n + 1) pc lv (.int i :: .ref a :: st) E 0 0 = some x := by
  subst hp
  subst h4
  refine q_sg hd rfl rfl ?_ kk
  show ((q_arr E a).bind fun q => q_if (q.1 == 1 && q_in i q.2.1) (some (pc + 1, lv, .int (q_lk q.2.2 i.toNatClampNeg) :: st, E, 0, 0))) = _
  rw [h2]
  show q_if (q_in i m) _ = _
  rw [h3]
  rfl
theorem q_s_put (hd : decode cc pc = .ok (.putfield idx, 3)) (hp : pc + 3 = pc1) (h2 : q_fld o idx = some (ci, k, ns)) (h3 : q_obj E a ci = some fs) (h4 : (q_fit (q_Ty ci k) v && q_fin o ini ci k ns && decide (k < fs.length)) = true) (hE : E.set (a / 2) (.inr (ci, fs.set k v)) = E1) (kk : q_run call o nL ini cc ret n pc1 lv st E1 0 0 = some x) : q_run call o nL ini cc ret (n + 1) pc lv (v :: .ref a :: st) E 0 0 = some x := by
  subst hp
  subst hE
  refine q_sg hd rfl rfl ?_ kk
  show ((q_fld o idx).bind fun q => (q_obj E a q.1).bind fun fs => q_if (q_fit (q_Ty q.1 q.2.1) v && q_fin o ini q.1 q.2.1 q.2.2 && decide (q.2.1 < fs.length)) (q_fc (fs.set q.2.1 v) fun fs1 => q_fc (E.set (a / 2) (.inr (q.1, fs1))) fun E1 => some (pc + 3, lv, st, E1, 0, 0))) = _
  rw [h2]
  show ((q_obj E a ci).bind fun fs => q_if (q_fit (q_Ty ci k) v && q_fin o ini ci k ns && decide (k < fs.length)) (q_fc (fs.set k v) fun fs1 => q_fc (E.set (a / 2) (.inr (ci, fs1))) fun E1 => some (pc + 3, lv, st, E1, 0, 0))) = _
  rw [h3]
  show q_if (q_fit (q_Ty ci k) v && q_fin o ini ci k ns && decide (k < fs.length)) _ = _
  rw [h4, q_fc_eq, q_fc_eq]
  rfl
theorem q_s_bas (hd : decode cc pc = .ok (.bastore, 1)) (hp : pc + 1 = pc1) (h2 : q_arr E a = some (0, m, L)) (h3 : q_in i m = true) (hj : i.toNatClampNeg = j) (hE : E.set (a / 2) (.inl (0, m, .inl ((j, u.toInt8.toInt32) :: L))) = E1) (kk : q_run call o nL ini cc ret n pc1 lv st E1 0 0 = some x) : q_run call o nL ini cc ret (n + 1) pc lv (.int u :: .int i :: .ref a :: st) E 0 0 = some x := by
  subst hp
  subst hj
  subst hE
  refine q_sg hd rfl rfl ?_ kk
  show ((q_arr E a).bind fun q => q_if ((q.1 == 0 || q.1 == 2) && q_in i q.2.1) (bif (q.1 == 2 && q_lk q.2.2 i.toNatClampNeg == (u &&& 1)) then some (pc + 1, lv, st, E, 0, 0) else q_fc (E.set (a / 2) (.inl (q.1, q.2.1, .inl (q_nf i.toNatClampNeg fun j => bif q.1 == 0 then (j, u.toInt8.toInt32) :: q.2.2 else q_upz q.2.2 j (u &&& 1))))) fun E1 => some (pc + 1, lv, st, E1, 0, 0))) = _
  rw [h2]
  show q_if (q_in i m) (q_fc (E.set (a / 2) (.inl (0, m, .inl (q_nf i.toNatClampNeg fun j => (j, u.toInt8.toInt32) :: L)))) fun E1 => some (pc + 1, lv, st, E1, 0, 0)) = _
  rw [h3, q_fc_eq, q_nf_eq]
  rfl
theorem q_s_ias (hd : decode cc pc = .ok (.iastore, 1)) (hp : pc + 1 = pc1) (h2 : q_arr E a = some (1, m, L)) (h3 : q_in i m = true) (hj : i.toNatClampNeg = j) (hE : E.set (a / 2) (.inl (1, m, .inl ((j, u) :: L))) = E1) (kk : q_run call o nL ini cc ret n pc1 lv st E1 0 0 = some x) : q_run call o nL ini cc ret (n + 1) pc lv (.int u :: .int i :: .ref a :: st) E 0 0 = some x := by
  subst hp
  subst hj
  subst hE
  refine q_sg hd rfl rfl ?_ kk
  show ((q_arr E a).bind fun q => q_if (q.1 == 1 && q_in i q.2.1) (q_fc (E.set (a / 2) (.inl (q.1, q.2.1, .inl (q_nf i.toNatClampNeg fun j => (j, u) :: q.2.2)))) fun E1 => some (pc + 1, lv, st, E1, 0, 0))) = _
  rw [h2]
  show q_if (q_in i m) (q_fc (E.set (a / 2) (.inl (1, m, .inl (q_nf i.toNatClampNeg fun j => (j, u) :: L)))) fun E1 => some (pc + 1, lv, st, E1, 0, 0)) = _
  rw [h3, q_fc_eq, q_nf_eq]
  rfl
theorem q_s_if (hd : decode cc pc = .ok (.ifCond cd off, 3)) (ht : q_tg pc off = some t) (hb : q_c1 cd u = b) (hp : (bif b then t else pc + 3) = pc1) (kk : q_run call o nL ini cc ret n pc1 lv st E 0 0 = some x) : q_run call o nL ini cc ret (n + 1) pc lv (.int u :: st) E 0 0 = some x := by
  subst hp
  subst hb
  refine q_sg hd rfl rfl ?_ kk
  show ((q_tg pc off).bind fun t => some (bif q_c1 cd u then t else pc + 3, lv, st, E, 0, 0)) = _
  rw [ht]
  rfl
theorem q_s_ic (hd : decode cc pc = .ok (.if_icmp cd off, 3)) (ht : q_tg pc off = some t) (hb : q_c2 cd i u = b) (hp : (bif b then t else pc + 3) = pc1) (kk : q_run call o nL ini cc ret n pc1 lv st E 0 0 = some x) : q_run call o nL ini cc ret (n + 1) pc lv (.int u :: .int i :: st) E 0 0 = some x := by
  subst hp
  subst hb
  refine q_sg hd rfl rfl ?_ kk
  show ((q_tg pc off).bind fun t => some (bif q_c2 cd i u then t else pc + 3, lv, st, E, 0, 0)) = _
  rw [ht]
  rfl
theorem q_s_tab {df lo hi : Int} {offs : Array Int} (hd : decode cc pc = .ok (.tableswitch df lo hi offs, len)) (hb : u.toInt < lo ∨ hi < u.toInt) (ht : q_tg pc df = some pc1) (kk : q_run call o nL ini cc ret n pc1 lv st E 0 0 = some x) : q_run call o nL ini cc ret (n + 1) pc lv (.int u :: st) E 0 0 = some x := by
  refine q_sg hd rfl rfl ?_ kk
  show (bif (decide (u.toInt < lo) || decide (hi < u.toInt)) then ((q_tg pc df).bind fun t => some (t, lv, st, E, 0, 0)) else ((offs[(u.toInt - lo).toNat]?).bind fun off => (q_tg pc off).bind fun t => some (t, lv, st, E, 0, 0))) = _
  rw [show (decide (u.toInt < lo) || decide (hi < u.toInt)) = true by simpa using hb, ht]
  rfl
theorem q_s_inv {v : Option Value} (hd : decode cc pc = .ok (.invokevirtual idx, 3)) (hq : q_cal o idx = some (y, z)) (hp : pc + 3 = pc1) (hn : st = as.reverse ++ .ref a :: r) (hl : q_na y = as.length) (hs : q_stat y = false) (hi : q_ini y = false) (ho : q_own y = ci) (hlt : ci < 13) (hob : q_obj E a ci = some fs) (hc : (r.map fun v => v.category).sum ≤ 8) (h3 : call y (.ref a :: as) E = some (v, E1, 0, 0)) (he : v.toList ++ r = st1) (kk : q_run call o nL ini cc ret n pc1 lv st1 E1 0 0 = some x) : q_run call o nL ini cc ret (n + 1) pc lv st E 0 0 = some x := by
  subst hp
  subst he
  have h4 : q_cl call o (.invokevirtual idx) 3 st E = some (v, r, E1, 0, 0) := by
    unfold q_cl
    show ((q_cal o idx).bind fun q => q_nf q.1 fun y => q_if (3 == 3 && decide (q_na y ≤ st.length)) (
      q_fc (st.take (q_na y)).reverse fun as => bif 1 == 0 then q_if (q_stat y && decide (((st.drop (q_na y)).map fun v => v.category).sum ≤ 8)) ((call y as E).map fun x => (x.1, st.drop (q_na y), x.2.1, x.2.2.1, x.2.2.2))
      else q_pr (st.drop (q_na y)) fun a r => q_if (!q_stat y && (q_ini y == (1 == 2)) && (!q_ini y || (q_ret y).isNone) && q_rcv E a (q_own y) && decide ((r.map fun v => v.category).sum ≤ 8)) ((call y (.ref a :: as) E).map fun x => (x.1, r, x.2.1, x.2.2.1, x.2.2.2)))) = _
    rw [hq]
    simp only [Option.bind_some, q_nf_eq, q_fc_eq]
    have e1 : st.take (q_na y) = as.reverse := by
      rw [hn, hl]
      exact List.take_left' (by simp)
    have e2 : st.drop (q_na y) = .ref a :: r := by
      rw [hn, hl]
      exact List.drop_left' (by simp)
    have e3 : q_na y ≤ st.length := by
      rw [hn, hl]
      simp
    have e4 : q_rcv E a (q_own y) = true := by
      unfold q_rcv
      rw [ho, hob]
      rw [show (ci == 14) = false by simp; omega]
      simpa using hlt
    rw [e1, e2, hs, hi, List.reverse_reverse, decide_eq_true e3]
    have e5 : (!false && false == (1 == 2) && (!false || (q_ret y).isNone) && q_rcv E a (q_own y) && decide ((r.map fun v => v.category).sum ≤ 8)) = true := by
      rw [e4, decide_eq_true hc]
      rfl
    have e6 : q_if (!false && false == (1 == 2) && (!false || (q_ret y).isNone) && q_rcv E a (q_own y) && decide ((r.map fun v => v.category).sum ≤ 8)) ((call y (.ref a :: as) E).map fun x => (x.1, r, x.2.1, x.2.2.1, x.2.2.2)) = some (v, r, E1, 0, 0) := by
      rw [e5, h3]
      rfl
    exact e6
  unfold q_run
  have h5 : q_rets ret (.invokevirtual idx) 3 st = none := rfl
  simp only [q_nf_eq, hd, h4, h5]
  exact kk
theorem q_setE_same {G : q_H} {i : Nat} {e : q_E} (h : G[i]? = some e) : G.set i e = G := by
  apply List.ext_getElem?
  intro j
  rw [List.getElem?_set]
  by_cases hj : i = j
  · subst hj
    have := (List.getElem?_eq_some_iff.mp h).1
    rw [if_pos rfl, if_pos this, h]
  · rw [if_neg hj]
end SYM
/-! the bytes at each place -/
theorem x_16_0 : decode (q_code 16) 0 = .ok (.aload_n 0, 1) := by decide +kernel
theorem x_16_1 : decode (q_code 16) 1 = .ok (.getfield 99, 3) := by decide +kernel
theorem x_16_4 : decode (q_code 16) 4 = .ok (.bipush 20, 2) := by decide +kernel
theorem x_16_6 : decode (q_code 16) 6 = .ok (.iadd, 1) := by decide +kernel
theorem x_16_7 : decode (q_code 16) 7 = .ok (.sipush 2000, 3) := by decide +kernel
theorem x_16_10 : decode (q_code 16) 10 = .ok (.if_icmp .le 5, 3) := by decide +kernel
theorem x_16_15 : decode (q_code 16) 15 = .ok (.aload_n 0, 1) := by decide +kernel
theorem x_16_16 : decode (q_code 16) 16 = .ok (.iload_n 1, 1) := by decide +kernel
theorem x_16_17 : decode (q_code 16) 17 = .ok (.invokevirtual 103, 3) := by decide +kernel
theorem x_16_20 : decode (q_code 16) 20 = .ok (.aload_n 0, 1) := by decide +kernel
theorem x_16_21 : decode (q_code 16) 21 = .ok (.iload_n 2, 1) := by decide +kernel
theorem x_16_22 : decode (q_code 16) 22 = .ok (.invokevirtual 103, 3) := by decide +kernel
theorem x_16_25 : decode (q_code 16) 25 = .ok (.aload_n 0, 1) := by decide +kernel
theorem x_16_26 : decode (q_code 16) 26 = .ok (.iload_n 3, 1) := by decide +kernel
theorem x_16_27 : decode (q_code 16) 27 = .ok (.invokevirtual 103, 3) := by decide +kernel
theorem x_16_30 : decode (q_code 16) 30 = .ok (.aload_n 0, 1) := by decide +kernel
theorem x_16_31 : decode (q_code 16) 31 = .ok (.iload 4, 2) := by decide +kernel
theorem x_16_33 : decode (q_code 16) 33 = .ok (.invokevirtual 103, 3) := by decide +kernel
theorem x_16_36 : decode (q_code 16) 36 = .ok (.aload_n 0, 1) := by decide +kernel
theorem x_16_37 : decode (q_code 16) 37 = .ok (.iload 5, 2) := by decide +kernel
theorem x_16_39 : decode (q_code 16) 39 = .ok (.invokevirtual 103, 3) := by decide +kernel
theorem x_16_42 : decode (q_code 16) 42 = .ok (.aload_n 0, 1) := by decide +kernel
theorem x_16_43 : decode (q_code 16) 43 = .ok (.getfield 99, 3) := by decide +kernel
theorem x_16_46 : decode (q_code 16) 46 = .ok (.ireturn, 1) := by decide +kernel
theorem x_17_0 : decode (q_code 17) 0 = .ok (.iconst 4, 1) := by decide +kernel
theorem x_17_1 : decode (q_code 17) 1 = .ok (.aload_n 0, 1) := by decide +kernel
theorem x_17_2 : decode (q_code 17) 2 = .ok (.getfield 99, 3) := by decide +kernel
theorem x_17_5 : decode (q_code 17) 5 = .ok (.iadd, 1) := by decide +kernel
theorem x_17_6 : decode (q_code 17) 6 = .ok (.istore_n 2, 1) := by decide +kernel
theorem x_17_7 : decode (q_code 17) 7 = .ok (.aload_n 0, 1) := by decide +kernel
theorem x_17_8 : decode (q_code 17) 8 = .ok (.getfield 16, 3) := by decide +kernel
theorem x_17_11 : decode (q_code 17) 11 = .ok (.iload_n 2, 1) := by decide +kernel
theorem x_17_12 : decode (q_code 17) 12 = .ok (.iload_n 1, 1) := by decide +kernel
theorem x_17_13 : decode (q_code 17) 13 = .ok (.bipush 24, 2) := by decide +kernel
theorem x_17_15 : decode (q_code 17) 15 = .ok (.ishr, 1) := by decide +kernel
theorem x_17_16 : decode (q_code 17) 16 = .ok (.i2b, 1) := by decide +kernel
theorem x_17_17 : decode (q_code 17) 17 = .ok (.bastore, 1) := by decide +kernel
theorem x_17_18 : decode (q_code 17) 18 = .ok (.aload_n 0, 1) := by decide +kernel
theorem x_17_19 : decode (q_code 17) 19 = .ok (.getfield 16, 3) := by decide +kernel
theorem x_17_22 : decode (q_code 17) 22 = .ok (.iload_n 2, 1) := by decide +kernel
theorem x_17_23 : decode (q_code 17) 23 = .ok (.iconst 1, 1) := by decide +kernel
theorem x_17_24 : decode (q_code 17) 24 = .ok (.iadd, 1) := by decide +kernel
theorem x_17_25 : decode (q_code 17) 25 = .ok (.iload_n 1, 1) := by decide +kernel
theorem x_17_26 : decode (q_code 17) 26 = .ok (.bipush 16, 2) := by decide +kernel
theorem x_17_28 : decode (q_code 17) 28 = .ok (.ishr, 1) := by decide +kernel
theorem x_17_29 : decode (q_code 17) 29 = .ok (.i2b, 1) := by decide +kernel
theorem x_17_30 : decode (q_code 17) 30 = .ok (.bastore, 1) := by decide +kernel
theorem x_17_31 : decode (q_code 17) 31 = .ok (.aload_n 0, 1) := by decide +kernel
theorem x_17_32 : decode (q_code 17) 32 = .ok (.getfield 16, 3) := by decide +kernel
theorem x_17_35 : decode (q_code 17) 35 = .ok (.iload_n 2, 1) := by decide +kernel
theorem x_17_36 : decode (q_code 17) 36 = .ok (.iconst 2, 1) := by decide +kernel
theorem x_17_37 : decode (q_code 17) 37 = .ok (.iadd, 1) := by decide +kernel
theorem x_17_38 : decode (q_code 17) 38 = .ok (.iload_n 1, 1) := by decide +kernel
theorem x_17_39 : decode (q_code 17) 39 = .ok (.bipush 8, 2) := by decide +kernel
theorem x_17_41 : decode (q_code 17) 41 = .ok (.ishr, 1) := by decide +kernel
theorem x_17_42 : decode (q_code 17) 42 = .ok (.i2b, 1) := by decide +kernel
theorem x_17_43 : decode (q_code 17) 43 = .ok (.bastore, 1) := by decide +kernel
theorem x_17_44 : decode (q_code 17) 44 = .ok (.aload_n 0, 1) := by decide +kernel
theorem x_17_45 : decode (q_code 17) 45 = .ok (.getfield 16, 3) := by decide +kernel
theorem x_17_48 : decode (q_code 17) 48 = .ok (.iload_n 2, 1) := by decide +kernel
theorem x_17_49 : decode (q_code 17) 49 = .ok (.iconst 3, 1) := by decide +kernel
theorem x_17_50 : decode (q_code 17) 50 = .ok (.iadd, 1) := by decide +kernel
theorem x_17_51 : decode (q_code 17) 51 = .ok (.iload_n 1, 1) := by decide +kernel
theorem x_17_52 : decode (q_code 17) 52 = .ok (.i2b, 1) := by decide +kernel
theorem x_17_53 : decode (q_code 17) 53 = .ok (.bastore, 1) := by decide +kernel
theorem x_17_54 : decode (q_code 17) 54 = .ok (.aload_n 0, 1) := by decide +kernel
theorem x_17_55 : decode (q_code 17) 55 = .ok (.dup, 1) := by decide +kernel
theorem x_17_56 : decode (q_code 17) 56 = .ok (.getfield 99, 3) := by decide +kernel
theorem x_17_59 : decode (q_code 17) 59 = .ok (.iconst 4, 1) := by decide +kernel
theorem x_17_60 : decode (q_code 17) 60 = .ok (.iadd, 1) := by decide +kernel
theorem x_17_61 : decode (q_code 17) 61 = .ok (.putfield 99, 3) := by decide +kernel
theorem x_17_64 : decode (q_code 17) 64 = .ok (.return_, 1) := by decide +kernel
theorem x_18_0 : decode (q_code 18) 0 = .ok (.iload_n 1, 1) := by decide +kernel
theorem x_18_1 : decode (q_code 18) 1 = .ok (.ifCond .lt 11, 3) := by decide +kernel
theorem x_18_4 : decode (q_code 18) 4 = .ok (.iload_n 1, 1) := by decide +kernel
theorem x_18_5 : decode (q_code 18) 5 = .ok (.aload_n 0, 1) := by decide +kernel
theorem x_18_6 : decode (q_code 18) 6 = .ok (.getfield 99, 3) := by decide +kernel
theorem x_18_9 : decode (q_code 18) 9 = .ok (.if_icmp .le 5, 3) := by decide +kernel
theorem x_18_12 : decode (q_code 18) 12 = .ok (.iconst (-1), 1) := by decide +kernel
theorem x_18_13 : decode (q_code 18) 13 = .ok (.ireturn, 1) := by decide +kernel
theorem x_21_0 : decode (q_code 21) 0 = .ok (.iload_n 1, 1) := by decide +kernel
theorem x_21_1 : decode (q_code 21) 1 = .ok (.ifCond .lt 42, 3) := by decide +kernel
theorem x_21_4 : decode (q_code 21) 4 = .ok (.iload_n 1, 1) := by decide +kernel
theorem x_21_5 : decode (q_code 21) 5 = .ok (.aload_n 0, 1) := by decide +kernel
theorem x_21_6 : decode (q_code 21) 6 = .ok (.getfield 24, 3) := by decide +kernel
theorem x_21_9 : decode (q_code 21) 9 = .ok (.getfield 178, 3) := by decide +kernel
theorem x_21_12 : decode (q_code 21) 12 = .ok (.if_icmp .ge 31, 3) := by decide +kernel
theorem x_21_43 : decode (q_code 21) 43 = .ok (.iconst (-1), 1) := by decide +kernel
theorem x_21_44 : decode (q_code 21) 44 = .ok (.ireturn, 1) := by decide +kernel
theorem x_22_0 : decode (q_code 22) 0 = .ok (.iload_n 1, 1) := by decide +kernel
theorem x_22_1 : decode (q_code 22) 1 = .ok (.tableswitch 94 0 7 #[47, 47, 57, 57, 69, 69, 81, 89], 47) := by decide +kernel
theorem x_22_95 : decode (q_code 22) 95 = .ok (.iconst (-1), 1) := by decide +kernel
theorem x_22_96 : decode (q_code 22) 96 = .ok (.ireturn, 1) := by decide +kernel
theorem x_23_0 : decode (q_code 23) 0 = .ok (.aload_n 0, 1) := by decide +kernel
theorem x_23_1 : decode (q_code 23) 1 = .ok (.iload_n 1, 1) := by decide +kernel
theorem x_23_2 : decode (q_code 23) 2 = .ok (.iload_n 2, 1) := by decide +kernel
theorem x_23_3 : decode (q_code 23) 3 = .ok (.invokevirtual 197, 3) := by decide +kernel
theorem x_23_6 : decode (q_code 23) 6 = .ok (.ifCond .eq 17, 3) := by decide +kernel
theorem x_23_23 : decode (q_code 23) 23 = .ok (.iconst 0, 1) := by decide +kernel
theorem x_23_24 : decode (q_code 23) 24 = .ok (.ireturn, 1) := by decide +kernel
theorem x_24_0 : decode (q_code 24) 0 = .ok (.aload_n 0, 1) := by decide +kernel
theorem x_24_1 : decode (q_code 24) 1 = .ok (.iload_n 1, 1) := by decide +kernel
theorem x_24_2 : decode (q_code 24) 2 = .ok (.iload_n 2, 1) := by decide +kernel
theorem x_24_3 : decode (q_code 24) 3 = .ok (.invokevirtual 197, 3) := by decide +kernel
theorem x_24_6 : decode (q_code 24) 6 = .ok (.ifCond .eq 26, 3) := by decide +kernel
theorem x_24_32 : decode (q_code 24) 32 = .ok (.iconst (-1), 1) := by decide +kernel
theorem x_24_33 : decode (q_code 24) 33 = .ok (.ireturn, 1) := by decide +kernel
theorem x_25_0 : decode (q_code 25) 0 = .ok (.aload_n 0, 1) := by decide +kernel
theorem x_25_1 : decode (q_code 25) 1 = .ok (.iload_n 1, 1) := by decide +kernel
theorem x_25_2 : decode (q_code 25) 2 = .ok (.iload_n 2, 1) := by decide +kernel
theorem x_25_3 : decode (q_code 25) 3 = .ok (.invokevirtual 197, 3) := by decide +kernel
theorem x_25_6 : decode (q_code 25) 6 = .ok (.ifCond .eq 7, 3) := by decide +kernel
theorem x_25_13 : decode (q_code 25) 13 = .ok (.iconst (-1), 1) := by decide +kernel
theorem x_25_14 : decode (q_code 25) 14 = .ok (.ireturn, 1) := by decide +kernel
theorem x_26_0 : decode (q_code 26) 0 = .ok (.iload_n 1, 1) := by decide +kernel
theorem x_26_1 : decode (q_code 26) 1 = .ok (.ifCond .eq 8, 3) := by decide +kernel
theorem x_26_4 : decode (q_code 26) 4 = .ok (.iload_n 1, 1) := by decide +kernel
theorem x_26_5 : decode (q_code 26) 5 = .ok (.iconst 1, 1) := by decide +kernel
theorem x_26_6 : decode (q_code 26) 6 = .ok (.if_icmp .ne 31, 3) := by decide +kernel
theorem x_26_9 : decode (q_code 26) 9 = .ok (.iload_n 2, 1) := by decide +kernel
theorem x_26_10 : decode (q_code 26) 10 = .ok (.ifCond .lt 27, 3) := by decide +kernel
theorem x_26_13 : decode (q_code 26) 13 = .ok (.iload_n 2, 1) := by decide +kernel
theorem x_26_14 : decode (q_code 26) 14 = .ok (.aload_n 0, 1) := by decide +kernel
theorem x_26_15 : decode (q_code 26) 15 = .ok (.getfield 83, 3) := by decide +kernel
theorem x_26_18 : decode (q_code 26) 18 = .ok (.iload_n 1, 1) := by decide +kernel
theorem x_26_19 : decode (q_code 26) 19 = .ok (.aaload, 1) := by decide +kernel
theorem x_26_20 : decode (q_code 26) 20 = .ok (.getfield 189, 3) := by decide +kernel
theorem x_26_23 : decode (q_code 26) 23 = .ok (.if_icmp .ge 14, 3) := by decide +kernel
theorem x_26_37 : decode (q_code 26) 37 = .ok (.iconst 0, 1) := by decide +kernel
theorem x_26_38 : decode (q_code 26) 38 = .ok (.ireturn, 1) := by decide +kernel
theorem x_40_0 : decode (q_code 40) 0 = .ok (.aload_n 0, 1) := by decide +kernel
theorem x_40_1 : decode (q_code 40) 1 = .ok (.getfield 1013, 3) := by decide +kernel
theorem x_40_4 : decode (q_code 40) 4 = .ok (.bipush 20, 2) := by decide +kernel
theorem x_40_6 : decode (q_code 40) 6 = .ok (.iadd, 1) := by decide +kernel
theorem x_40_7 : decode (q_code 40) 7 = .ok (.sipush 2000, 3) := by decide +kernel
theorem x_40_10 : decode (q_code 40) 10 = .ok (.if_icmp .le 5, 3) := by decide +kernel
theorem x_40_15 : decode (q_code 40) 15 = .ok (.iconst 0, 1) := by decide +kernel
theorem x_40_16 : decode (q_code 40) 16 = .ok (.istore 6, 2) := by decide +kernel
theorem x_40_18 : decode (q_code 40) 18 = .ok (.iload 6, 2) := by decide +kernel
theorem x_40_20 : decode (q_code 40) 20 = .ok (.bipush 20, 2) := by decide +kernel
theorem x_40_22 : decode (q_code 40) 22 = .ok (.if_icmp .ge 93, 3) := by decide +kernel
theorem x_40_25 : decode (q_code 40) 25 = .ok (.iload 6, 2) := by decide +kernel
theorem x_40_27 : decode (q_code 40) 27 = .ok (.iconst 4, 1) := by decide +kernel
theorem x_40_28 : decode (q_code 40) 28 = .ok (.if_icmp .ge 7, 3) := by decide +kernel
theorem x_40_31 : decode (q_code 40) 31 = .ok (.iload_n 1, 1) := by decide +kernel
theorem x_40_32 : decode (q_code 40) 32 = .ok (.goto 39, 3) := by decide +kernel
theorem x_40_35 : decode (q_code 40) 35 = .ok (.iload 6, 2) := by decide +kernel
theorem x_40_37 : decode (q_code 40) 37 = .ok (.bipush 8, 2) := by decide +kernel
theorem x_40_39 : decode (q_code 40) 39 = .ok (.if_icmp .ge 7, 3) := by decide +kernel
theorem x_40_42 : decode (q_code 40) 42 = .ok (.iload_n 2, 1) := by decide +kernel
theorem x_40_43 : decode (q_code 40) 43 = .ok (.goto 28, 3) := by decide +kernel
theorem x_40_46 : decode (q_code 40) 46 = .ok (.iload 6, 2) := by decide +kernel
theorem x_40_48 : decode (q_code 40) 48 = .ok (.bipush 12, 2) := by decide +kernel
theorem x_40_50 : decode (q_code 40) 50 = .ok (.if_icmp .ge 7, 3) := by decide +kernel
theorem x_40_53 : decode (q_code 40) 53 = .ok (.iload_n 3, 1) := by decide +kernel
theorem x_40_54 : decode (q_code 40) 54 = .ok (.goto 17, 3) := by decide +kernel
theorem x_40_57 : decode (q_code 40) 57 = .ok (.iload 6, 2) := by decide +kernel
theorem x_40_59 : decode (q_code 40) 59 = .ok (.bipush 16, 2) := by decide +kernel
theorem x_40_61 : decode (q_code 40) 61 = .ok (.if_icmp .ge 8, 3) := by decide +kernel
theorem x_40_64 : decode (q_code 40) 64 = .ok (.iload 4, 2) := by decide +kernel
theorem x_40_66 : decode (q_code 40) 66 = .ok (.goto 5, 3) := by decide +kernel
theorem x_40_69 : decode (q_code 40) 69 = .ok (.iload 5, 2) := by decide +kernel
theorem x_40_71 : decode (q_code 40) 71 = .ok (.istore 7, 2) := by decide +kernel
theorem x_40_73 : decode (q_code 40) 73 = .ok (.aload_n 0, 1) := by decide +kernel
theorem x_40_74 : decode (q_code 40) 74 = .ok (.getfield 14, 3) := by decide +kernel
theorem x_40_77 : decode (q_code 40) 77 = .ok (.aload_n 0, 1) := by decide +kernel
theorem x_40_78 : decode (q_code 40) 78 = .ok (.getfield 1013, 3) := by decide +kernel
theorem x_40_81 : decode (q_code 40) 81 = .ok (.iload 7, 2) := by decide +kernel
theorem x_40_83 : decode (q_code 40) 83 = .ok (.bipush 24, 2) := by decide +kernel
theorem x_40_85 : decode (q_code 40) 85 = .ok (.bipush 8, 2) := by decide +kernel
theorem x_40_87 : decode (q_code 40) 87 = .ok (.iload 6, 2) := by decide +kernel
theorem x_40_89 : decode (q_code 40) 89 = .ok (.iconst 4, 1) := by decide +kernel
theorem x_40_90 : decode (q_code 40) 90 = .ok (.irem, 1) := by decide +kernel
theorem x_40_91 : decode (q_code 40) 91 = .ok (.imul, 1) := by decide +kernel
theorem x_40_92 : decode (q_code 40) 92 = .ok (.isub, 1) := by decide +kernel
theorem x_40_93 : decode (q_code 40) 93 = .ok (.ishr, 1) := by decide +kernel
theorem x_40_94 : decode (q_code 40) 94 = .ok (.sipush 255, 3) := by decide +kernel
theorem x_40_97 : decode (q_code 40) 97 = .ok (.iand, 1) := by decide +kernel
theorem x_40_98 : decode (q_code 40) 98 = .ok (.iastore, 1) := by decide +kernel
theorem x_40_99 : decode (q_code 40) 99 = .ok (.aload_n 0, 1) := by decide +kernel
theorem x_40_100 : decode (q_code 40) 100 = .ok (.dup, 1) := by decide +kernel
theorem x_40_101 : decode (q_code 40) 101 = .ok (.getfield 1013, 3) := by decide +kernel
theorem x_40_104 : decode (q_code 40) 104 = .ok (.iconst 1, 1) := by decide +kernel
theorem x_40_105 : decode (q_code 40) 105 = .ok (.iadd, 1) := by decide +kernel
theorem x_40_106 : decode (q_code 40) 106 = .ok (.putfield 1013, 3) := by decide +kernel
theorem x_40_109 : decode (q_code 40) 109 = .ok (.iinc 6 1, 3) := by decide +kernel
theorem x_40_112 : decode (q_code 40) 112 = .ok (.goto (-94), 3) := by decide +kernel
theorem x_40_115 : decode (q_code 40) 115 = .ok (.aload_n 0, 1) := by decide +kernel
theorem x_40_116 : decode (q_code 40) 116 = .ok (.getfield 1013, 3) := by decide +kernel
theorem x_40_119 : decode (q_code 40) 119 = .ok (.ireturn, 1) := by decide +kernel
theorem x_41_0 : decode (q_code 41) 0 = .ok (.iload_n 1, 1) := by decide +kernel
theorem x_41_1 : decode (q_code 41) 1 = .ok (.ifCond .lt 11, 3) := by decide +kernel
theorem x_41_4 : decode (q_code 41) 4 = .ok (.iload_n 1, 1) := by decide +kernel
theorem x_41_5 : decode (q_code 41) 5 = .ok (.aload_n 0, 1) := by decide +kernel
theorem x_41_6 : decode (q_code 41) 6 = .ok (.getfield 1013, 3) := by decide +kernel
theorem x_41_9 : decode (q_code 41) 9 = .ok (.if_icmp .le 5, 3) := by decide +kernel
theorem x_41_12 : decode (q_code 41) 12 = .ok (.iconst (-1), 1) := by decide +kernel
theorem x_41_13 : decode (q_code 41) 13 = .ok (.ireturn, 1) := by decide +kernel
theorem x_56_0 : decode (q_code 56) 0 = .ok (.iload_n 1, 1) := by decide +kernel
theorem x_56_1 : decode (q_code 56) 1 = .ok (.ifCond .lt 23, 3) := by decide +kernel
theorem x_56_4 : decode (q_code 56) 4 = .ok (.iload_n 1, 1) := by decide +kernel
theorem x_56_5 : decode (q_code 56) 5 = .ok (.aload_n 0, 1) := by decide +kernel
theorem x_56_6 : decode (q_code 56) 6 = .ok (.getfield 1027, 3) := by decide +kernel
theorem x_56_9 : decode (q_code 56) 9 = .ok (.if_icmp .ge 15, 3) := by decide +kernel
theorem x_56_24 : decode (q_code 56) 24 = .ok (.iconst (-1), 1) := by decide +kernel
theorem x_56_25 : decode (q_code 56) 25 = .ok (.ireturn, 1) := by decide +kernel
theorem x_57_0 : decode (q_code 57) 0 = .ok (.iload_n 1, 1) := by decide +kernel
theorem x_57_1 : decode (q_code 57) 1 = .ok (.ifCond .eq 8, 3) := by decide +kernel
theorem x_57_4 : decode (q_code 57) 4 = .ok (.iload_n 1, 1) := by decide +kernel
theorem x_57_5 : decode (q_code 57) 5 = .ok (.iconst 1, 1) := by decide +kernel
theorem x_57_6 : decode (q_code 57) 6 = .ok (.if_icmp .ne 10, 3) := by decide +kernel
theorem x_57_16 : decode (q_code 57) 16 = .ok (.iload_n 1, 1) := by decide +kernel
theorem x_57_17 : decode (q_code 57) 17 = .ok (.iconst 2, 1) := by decide +kernel
theorem x_57_18 : decode (q_code 57) 18 = .ok (.if_icmp .eq 8, 3) := by decide +kernel
theorem x_57_21 : decode (q_code 57) 21 = .ok (.iload_n 1, 1) := by decide +kernel
theorem x_57_22 : decode (q_code 57) 22 = .ok (.iconst 3, 1) := by decide +kernel
theorem x_57_23 : decode (q_code 57) 23 = .ok (.if_icmp .ne 12, 3) := by decide +kernel
theorem x_57_35 : decode (q_code 57) 35 = .ok (.iload_n 1, 1) := by decide +kernel
theorem x_57_36 : decode (q_code 57) 36 = .ok (.bipush 6, 2) := by decide +kernel
theorem x_57_38 : decode (q_code 57) 38 = .ok (.if_icmp .ne 8, 3) := by decide +kernel
theorem x_57_46 : decode (q_code 57) 46 = .ok (.iload_n 1, 1) := by decide +kernel
theorem x_57_47 : decode (q_code 57) 47 = .ok (.bipush 7, 2) := by decide +kernel
theorem x_57_49 : decode (q_code 57) 49 = .ok (.if_icmp .ne 8, 3) := by decide +kernel
theorem x_57_57 : decode (q_code 57) 57 = .ok (.iload_n 1, 1) := by decide +kernel
theorem x_57_58 : decode (q_code 57) 58 = .ok (.iconst 4, 1) := by decide +kernel
theorem x_57_59 : decode (q_code 57) 59 = .ok (.if_icmp .eq 10, 3) := by decide +kernel
theorem x_57_62 : decode (q_code 57) 62 = .ok (.iload_n 1, 1) := by decide +kernel
theorem x_57_63 : decode (q_code 57) 63 = .ok (.iconst 5, 1) := by decide +kernel
theorem x_57_64 : decode (q_code 57) 64 = .ok (.if_icmp .eq 5, 3) := by decide +kernel
theorem x_57_67 : decode (q_code 57) 67 = .ok (.iconst (-1), 1) := by decide +kernel
theorem x_57_68 : decode (q_code 57) 68 = .ok (.ireturn, 1) := by decide +kernel
theorem x_58_0 : decode (q_code 58) 0 = .ok (.iload_n 1, 1) := by decide +kernel
theorem x_58_1 : decode (q_code 58) 1 = .ok (.ifCond .eq 8, 3) := by decide +kernel
theorem x_58_4 : decode (q_code 58) 4 = .ok (.iload_n 1, 1) := by decide +kernel
theorem x_58_5 : decode (q_code 58) 5 = .ok (.iconst 1, 1) := by decide +kernel
theorem x_58_6 : decode (q_code 58) 6 = .ok (.if_icmp .ne 21, 3) := by decide +kernel
theorem x_58_9 : decode (q_code 58) 9 = .ok (.iload_n 2, 1) := by decide +kernel
theorem x_58_10 : decode (q_code 58) 10 = .ok (.ifCond .lt 17, 3) := by decide +kernel
theorem x_58_13 : decode (q_code 58) 13 = .ok (.iload_n 2, 1) := by decide +kernel
theorem x_58_14 : decode (q_code 58) 14 = .ok (.aload_n 0, 1) := by decide +kernel
theorem x_58_15 : decode (q_code 58) 15 = .ok (.getfield 109, 3) := by decide +kernel
theorem x_58_18 : decode (q_code 58) 18 = .ok (.iload_n 1, 1) := by decide +kernel
theorem x_58_19 : decode (q_code 58) 19 = .ok (.iaload, 1) := by decide +kernel
theorem x_58_20 : decode (q_code 58) 20 = .ok (.if_icmp .ge 7, 3) := by decide +kernel
theorem x_58_27 : decode (q_code 58) 27 = .ok (.iconst 0, 1) := by decide +kernel
theorem x_58_28 : decode (q_code 58) 28 = .ok (.ireturn, 1) := by decide +kernel
theorem x_59_0 : decode (q_code 59) 0 = .ok (.aload_n 0, 1) := by decide +kernel
theorem x_59_1 : decode (q_code 59) 1 = .ok (.iload_n 1, 1) := by decide +kernel
theorem x_59_2 : decode (q_code 59) 2 = .ok (.iload_n 2, 1) := by decide +kernel
theorem x_59_3 : decode (q_code 59) 3 = .ok (.invokevirtual 1030, 3) := by decide +kernel
theorem x_59_6 : decode (q_code 59) 6 = .ok (.ifCond .eq 18, 3) := by decide +kernel
theorem x_59_24 : decode (q_code 59) 24 = .ok (.iconst 0, 1) := by decide +kernel
theorem x_59_25 : decode (q_code 59) 25 = .ok (.ireturn, 1) := by decide +kernel
theorem x_60_0 : decode (q_code 60) 0 = .ok (.aload_n 0, 1) := by decide +kernel
theorem x_60_1 : decode (q_code 60) 1 = .ok (.iload_n 1, 1) := by decide +kernel
theorem x_60_2 : decode (q_code 60) 2 = .ok (.iload_n 2, 1) := by decide +kernel
theorem x_60_3 : decode (q_code 60) 3 = .ok (.invokevirtual 1030, 3) := by decide +kernel
theorem x_60_6 : decode (q_code 60) 6 = .ok (.ifCond .eq 16, 3) := by decide +kernel
theorem x_60_22 : decode (q_code 60) 22 = .ok (.iconst (-1), 1) := by decide +kernel
theorem x_60_23 : decode (q_code 60) 23 = .ok (.ireturn, 1) := by decide +kernel
theorem x_61_0 : decode (q_code 61) 0 = .ok (.aload_n 0, 1) := by decide +kernel
theorem x_61_1 : decode (q_code 61) 1 = .ok (.iload_n 1, 1) := by decide +kernel
theorem x_61_2 : decode (q_code 61) 2 = .ok (.iload_n 2, 1) := by decide +kernel
theorem x_61_3 : decode (q_code 61) 3 = .ok (.invokevirtual 1030, 3) := by decide +kernel
theorem x_61_6 : decode (q_code 61) 6 = .ok (.ifCond .eq 36, 3) := by decide +kernel
theorem x_61_42 : decode (q_code 61) 42 = .ok (.iconst (-1), 1) := by decide +kernel
theorem x_61_43 : decode (q_code 61) 43 = .ok (.ireturn, 1) := by decide +kernel
end
section
/-! calls on fresh objects: a house and its model, side by side on one heap -/
def p_E : q_H := p_EH ++ p_EM
set_option maxRecDepth 100000 in
theorem e_0 : p_E[0]? = some (.inr (11, [.ref 4, .ref 8, .ref 12, .ref 14, .ref 22, .ref 34, .ref 74, .ref 90, .ref 96, .ref 102, .ref 444, .ref 446, .int 0, .int 0, .int 0, .int 0, .ref 104, .int 0, .int 0])) := rfl
set_option maxRecDepth 100000 in
theorem e_51 : p_E[51]? = some (.inl (4, 2, .inr [(1, 274), (0, 104)])) := rfl
set_option maxRecDepth 100000 in
theorem e_52 : p_E[52]? = some (.inr (8, [.ref 4, .int 2008, .ref 106, .ref 108, .ref 112, .ref 110, .int 0, .int 0, .int 0, .int 2008])) := rfl
set_option maxRecDepth 100000 in
theorem e_137 : p_E[137]? = some (.inr (8, [.ref 4, .int 42408, .ref 276, .ref 278, .ref 282, .ref 280, .int 0, .int 0, .int 0, .int 42408])) := rfl
set_option maxRecDepth 100000 in
theorem e_224 : p_E[224]? = some (.inr (12, [.ref 450, .ref 452, .int 0, .int 0, .int 0, .int 0, .int 0, .int 0, .int 0, .ref 454, .int 0, .int 0, .ref 456, .int 0, .int 0, .int 0, .int 0, .int 0, .ref 458, .int 0, .ref 460, .int 0, .ref 462, .int 0, .int 0, .int 0, .int 0, .int 0, .int 0, .int 0, .ref 464, .ref 466, .int 0, .int 0, .ref 468, .ref 470, .ref 472, .ref 474, .ref 476, .ref 478, .int 0, .int 0, .int 0, .int 0, .int 0, .ref 480, .ref 482, .int (-1), .ref 484, .ref 486, .ref 488, .ref 490, .ref 492, .ref 494, .ref 496, .int 0, .int 0, .ref 498, .ref 500, .ref 502, .ref 504, .int 0, .ref 506, .ref 508, .int 0, .int 0, .int 0, .int 0, .ref 510, .ref 512, .ref 514, .ref 516, .ref 518, .ref 520, .ref 522, .ref 524, .ref 526, .int 0])) := rfl
set_option maxRecDepth 100000 in
theorem e_255 : p_E[255]? = some (.inl (1, 2, .inl [])) := rfl
set_option maxRecDepth 100000 in
theorem e_4 : p_E[4]? = some (.inr (4, [.ref 10, .int 0, .int 8000, .int 0])) := rfl
set_option maxRecDepth 100000 in
theorem e_2 : p_E[2]? = some (.inl (0, 246408, .inl [(2, 3), (0, 10)])) := rfl
set_option maxRecDepth 100000 in
theorem e_226 : p_E[226]? = some (.inl (1, 2000, .inl [])) := rfl
theorem s_A {a k : Int32} {d : Nat} (h0 : ¬ a = 0) (h1 : ¬ a = 1) : q_callf 4000 (d + 1) 26 [.ref 0, .int a, .int k] p_E = some (some (.int 0), p_E, 0, 0) := by
  refine q_cg rfl ?_
  refine q_sg x_26_0 rfl rfl (pc1 := 1) (lv1 := [(0, .ref 0), (1, .int a), (2, .int k)]) (st1 := [.int a]) rfl ?_
  refine q_s_if x_26_1 (t := 9) (by decide +kernel) (show q_c1 .eq a = false by simpa [q_c1] using h0) (pc1 := 4) rfl ?_
  refine q_sg x_26_4 rfl rfl (pc1 := 5) (lv1 := [(0, .ref 0), (1, .int a), (2, .int k)]) (st1 := [.int a]) rfl ?_
  refine q_sg x_26_5 rfl rfl (pc1 := 6) (lv1 := [(0, .ref 0), (1, .int a), (2, .int k)]) (st1 := [.int 1, .int a]) rfl ?_
  refine q_s_ic x_26_6 (t := 37) (by decide +kernel) (show q_c2 .ne a 1 = true by simpa [q_c2] using h1) (pc1 := 37) rfl ?_
  refine q_sg x_26_37 rfl rfl (pc1 := 38) (lv1 := [(0, .ref 0), (1, .int a), (2, .int k)]) (st1 := [.int 0]) rfl ?_
  exact q_sr x_26_38 rfl
theorem s_B0 {k : Int32} {d : Nat} (hk : k < 0) : q_callf 4000 (d + 1) 26 [.ref 0, .int 0, .int k] p_E = some (some (.int 0), p_E, 0, 0) := by
  refine q_cg rfl ?_
  refine q_sg x_26_0 rfl rfl (pc1 := 1) (lv1 := [(0, .ref 0), (1, .int 0), (2, .int k)]) (st1 := [.int 0]) rfl ?_
  refine q_sg x_26_1 rfl rfl (pc1 := 9) (lv1 := [(0, .ref 0), (1, .int 0), (2, .int k)]) (st1 := []) rfl ?_
  refine q_sg x_26_9 rfl rfl (pc1 := 10) (lv1 := [(0, .ref 0), (1, .int 0), (2, .int k)]) (st1 := [.int k]) rfl ?_
  refine q_s_if x_26_10 (t := 37) (by decide +kernel) (show q_c1 .lt k = true by simpa [q_c1] using hk) (pc1 := 37) rfl ?_
  refine q_sg x_26_37 rfl rfl (pc1 := 38) (lv1 := [(0, .ref 0), (1, .int 0), (2, .int k)]) (st1 := [.int 0]) rfl ?_
  exact q_sr x_26_38 rfl
theorem s_C0 {k : Int32} {d : Nat} (hk : ¬ k < 0) : q_callf 4000 (d + 1) 26 [.ref 0, .int 0, .int k] p_E = some (some (.int 0), p_E, 0, 0) := by
  refine q_cg rfl ?_
  refine q_sg x_26_0 rfl rfl (pc1 := 1) (lv1 := [(0, .ref 0), (1, .int 0), (2, .int k)]) (st1 := [.int 0]) rfl ?_
  refine q_sg x_26_1 rfl rfl (pc1 := 9) (lv1 := [(0, .ref 0), (1, .int 0), (2, .int k)]) (st1 := []) rfl ?_
  refine q_sg x_26_9 rfl rfl (pc1 := 10) (lv1 := [(0, .ref 0), (1, .int 0), (2, .int k)]) (st1 := [.int k]) rfl ?_
  refine q_s_if x_26_10 (t := 37) (by decide +kernel) (show q_c1 .lt k = false by simpa [q_c1] using hk) (pc1 := 13) rfl ?_
  refine q_sg x_26_13 rfl rfl (pc1 := 14) (lv1 := [(0, .ref 0), (1, .int 0), (2, .int k)]) (st1 := [.int k]) rfl ?_
  refine q_sg x_26_14 rfl rfl (pc1 := 15) (lv1 := [(0, .ref 0), (1, .int 0), (2, .int k)]) (st1 := [.ref 0, .int k]) rfl ?_
  refine q_s_get x_26_15 rfl (pc1 := 18) rfl (ci := 11) (k := 9) (ns := 0) (by decide +kernel) (q_ob e_0 rfl) (v := .ref 102) rfl ?_
  refine q_sg x_26_18 rfl rfl (pc1 := 19) (lv1 := [(0, .ref 0), (1, .int 0), (2, .int k)]) (st1 := [.int 0, .ref 102, .int k]) rfl ?_
  refine q_s_aal x_26_19 (pc1 := 20) rfl (q_aR e_51 rfl) (by decide +kernel) (v := .ref 104) rfl ?_
  refine q_s_get x_26_20 rfl (pc1 := 23) rfl (ci := 8) (k := 6) (ns := 1) (by decide +kernel) (q_ob e_52 rfl) (v := .int 0) rfl ?_
  refine q_s_ic x_26_23 (t := 37) (by decide +kernel) (show q_c2 .ge k 0 = true by simpa [q_c2] using (Int32.not_lt.mp hk)) (pc1 := 37) rfl ?_
  refine q_sg x_26_37 rfl rfl (pc1 := 38) (lv1 := [(0, .ref 0), (1, .int 0), (2, .int k)]) (st1 := [.int 0]) rfl ?_
  exact q_sr x_26_38 rfl
theorem s_B1 {k : Int32} {d : Nat} (hk : k < 0) : q_callf 4000 (d + 1) 26 [.ref 0, .int 1, .int k] p_E = some (some (.int 0), p_E, 0, 0) := by
  refine q_cg rfl ?_
  refine q_sg x_26_0 rfl rfl (pc1 := 1) (lv1 := [(0, .ref 0), (1, .int 1), (2, .int k)]) (st1 := [.int 1]) rfl ?_
  refine q_sg x_26_1 rfl rfl (pc1 := 4) (lv1 := [(0, .ref 0), (1, .int 1), (2, .int k)]) (st1 := []) rfl ?_
  refine q_sg x_26_4 rfl rfl (pc1 := 5) (lv1 := [(0, .ref 0), (1, .int 1), (2, .int k)]) (st1 := [.int 1]) rfl ?_
  refine q_sg x_26_5 rfl rfl (pc1 := 6) (lv1 := [(0, .ref 0), (1, .int 1), (2, .int k)]) (st1 := [.int 1, .int 1]) rfl ?_
  refine q_sg x_26_6 rfl rfl (pc1 := 9) (lv1 := [(0, .ref 0), (1, .int 1), (2, .int k)]) (st1 := []) rfl ?_
  refine q_sg x_26_9 rfl rfl (pc1 := 10) (lv1 := [(0, .ref 0), (1, .int 1), (2, .int k)]) (st1 := [.int k]) rfl ?_
  refine q_s_if x_26_10 (t := 37) (by decide +kernel) (show q_c1 .lt k = true by simpa [q_c1] using hk) (pc1 := 37) rfl ?_
  refine q_sg x_26_37 rfl rfl (pc1 := 38) (lv1 := [(0, .ref 0), (1, .int 1), (2, .int k)]) (st1 := [.int 0]) rfl ?_
  exact q_sr x_26_38 rfl
theorem s_C1 {k : Int32} {d : Nat} (hk : ¬ k < 0) : q_callf 4000 (d + 1) 26 [.ref 0, .int 1, .int k] p_E = some (some (.int 0), p_E, 0, 0) := by
  refine q_cg rfl ?_
  refine q_sg x_26_0 rfl rfl (pc1 := 1) (lv1 := [(0, .ref 0), (1, .int 1), (2, .int k)]) (st1 := [.int 1]) rfl ?_
  refine q_sg x_26_1 rfl rfl (pc1 := 4) (lv1 := [(0, .ref 0), (1, .int 1), (2, .int k)]) (st1 := []) rfl ?_
  refine q_sg x_26_4 rfl rfl (pc1 := 5) (lv1 := [(0, .ref 0), (1, .int 1), (2, .int k)]) (st1 := [.int 1]) rfl ?_
  refine q_sg x_26_5 rfl rfl (pc1 := 6) (lv1 := [(0, .ref 0), (1, .int 1), (2, .int k)]) (st1 := [.int 1, .int 1]) rfl ?_
  refine q_sg x_26_6 rfl rfl (pc1 := 9) (lv1 := [(0, .ref 0), (1, .int 1), (2, .int k)]) (st1 := []) rfl ?_
  refine q_sg x_26_9 rfl rfl (pc1 := 10) (lv1 := [(0, .ref 0), (1, .int 1), (2, .int k)]) (st1 := [.int k]) rfl ?_
  refine q_s_if x_26_10 (t := 37) (by decide +kernel) (show q_c1 .lt k = false by simpa [q_c1] using hk) (pc1 := 13) rfl ?_
  refine q_sg x_26_13 rfl rfl (pc1 := 14) (lv1 := [(0, .ref 0), (1, .int 1), (2, .int k)]) (st1 := [.int k]) rfl ?_
  refine q_sg x_26_14 rfl rfl (pc1 := 15) (lv1 := [(0, .ref 0), (1, .int 1), (2, .int k)]) (st1 := [.ref 0, .int k]) rfl ?_
  refine q_s_get x_26_15 rfl (pc1 := 18) rfl (ci := 11) (k := 9) (ns := 0) (by decide +kernel) (q_ob e_0 rfl) (v := .ref 102) rfl ?_
  refine q_sg x_26_18 rfl rfl (pc1 := 19) (lv1 := [(0, .ref 0), (1, .int 1), (2, .int k)]) (st1 := [.int 1, .ref 102, .int k]) rfl ?_
  refine q_s_aal x_26_19 (pc1 := 20) rfl (q_aR e_51 rfl) (by decide +kernel) (v := .ref 274) rfl ?_
  refine q_s_get x_26_20 rfl (pc1 := 23) rfl (ci := 8) (k := 6) (ns := 1) (by decide +kernel) (q_ob e_137 rfl) (v := .int 0) rfl ?_
  refine q_s_ic x_26_23 (t := 37) (by decide +kernel) (show q_c2 .ge k 0 = true by simpa [q_c2] using (Int32.not_lt.mp hk)) (pc1 := 37) rfl ?_
  refine q_sg x_26_37 rfl rfl (pc1 := 38) (lv1 := [(0, .ref 0), (1, .int 1), (2, .int k)]) (st1 := [.int 0]) rfl ?_
  exact q_sr x_26_38 rfl
theorem s_N (a k : Int32) (d : Nat) : q_callf 4000 (d + 1) 26 [.ref 0, .int a, .int k] p_E = some (some (.int 0), p_E, 0, 0) := by
  by_cases h0 : a = 0
  · subst h0
    by_cases hk : k < 0
    · exact s_B0 hk
    · exact s_C0 hk
  · by_cases h1 : a = 1
    · subst h1
      by_cases hk : k < 0
      · exact s_B1 hk
      · exact s_C1 hk
    · exact s_A h0 h1
theorem t_A {a k : Int32} {d : Nat} (h0 : ¬ a = 0) (h1 : ¬ a = 1) : q_callf 4000 (d + 1) 58 [.ref 448, .int a, .int k] p_E = some (some (.int 0), p_E, 0, 0) := by
  refine q_cg rfl ?_
  refine q_sg x_58_0 rfl rfl (pc1 := 1) (lv1 := [(0, .ref 448), (1, .int a), (2, .int k)]) (st1 := [.int a]) rfl ?_
  refine q_s_if x_58_1 (t := 9) (by decide +kernel) (show q_c1 .eq a = false by simpa [q_c1] using h0) (pc1 := 4) rfl ?_
  refine q_sg x_58_4 rfl rfl (pc1 := 5) (lv1 := [(0, .ref 448), (1, .int a), (2, .int k)]) (st1 := [.int a]) rfl ?_
  refine q_sg x_58_5 rfl rfl (pc1 := 6) (lv1 := [(0, .ref 448), (1, .int a), (2, .int k)]) (st1 := [.int 1, .int a]) rfl ?_
  refine q_s_ic x_58_6 (t := 27) (by decide +kernel) (show q_c2 .ne a 1 = true by simpa [q_c2] using h1) (pc1 := 27) rfl ?_
  refine q_sg x_58_27 rfl rfl (pc1 := 28) (lv1 := [(0, .ref 448), (1, .int a), (2, .int k)]) (st1 := [.int 0]) rfl ?_
  exact q_sr x_58_28 rfl
theorem t_B0 {k : Int32} {d : Nat} (hk : k < 0) : q_callf 4000 (d + 1) 58 [.ref 448, .int 0, .int k] p_E = some (some (.int 0), p_E, 0, 0) := by
  refine q_cg rfl ?_
  refine q_sg x_58_0 rfl rfl (pc1 := 1) (lv1 := [(0, .ref 448), (1, .int 0), (2, .int k)]) (st1 := [.int 0]) rfl ?_
  refine q_sg x_58_1 rfl rfl (pc1 := 9) (lv1 := [(0, .ref 448), (1, .int 0), (2, .int k)]) (st1 := []) rfl ?_
  refine q_sg x_58_9 rfl rfl (pc1 := 10) (lv1 := [(0, .ref 448), (1, .int 0), (2, .int k)]) (st1 := [.int k]) rfl ?_
  refine q_s_if x_58_10 (t := 27) (by decide +kernel) (show q_c1 .lt k = true by simpa [q_c1] using hk) (pc1 := 27) rfl ?_
  refine q_sg x_58_27 rfl rfl (pc1 := 28) (lv1 := [(0, .ref 448), (1, .int 0), (2, .int k)]) (st1 := [.int 0]) rfl ?_
  exact q_sr x_58_28 rfl
theorem t_C0 {k : Int32} {d : Nat} (hk : ¬ k < 0) : q_callf 4000 (d + 1) 58 [.ref 448, .int 0, .int k] p_E = some (some (.int 0), p_E, 0, 0) := by
  refine q_cg rfl ?_
  refine q_sg x_58_0 rfl rfl (pc1 := 1) (lv1 := [(0, .ref 448), (1, .int 0), (2, .int k)]) (st1 := [.int 0]) rfl ?_
  refine q_sg x_58_1 rfl rfl (pc1 := 9) (lv1 := [(0, .ref 448), (1, .int 0), (2, .int k)]) (st1 := []) rfl ?_
  refine q_sg x_58_9 rfl rfl (pc1 := 10) (lv1 := [(0, .ref 448), (1, .int 0), (2, .int k)]) (st1 := [.int k]) rfl ?_
  refine q_s_if x_58_10 (t := 27) (by decide +kernel) (show q_c1 .lt k = false by simpa [q_c1] using hk) (pc1 := 13) rfl ?_
  refine q_sg x_58_13 rfl rfl (pc1 := 14) (lv1 := [(0, .ref 448), (1, .int 0), (2, .int k)]) (st1 := [.int k]) rfl ?_
  refine q_sg x_58_14 rfl rfl (pc1 := 15) (lv1 := [(0, .ref 448), (1, .int 0), (2, .int k)]) (st1 := [.ref 448, .int k]) rfl ?_
  refine q_s_get x_58_15 rfl (pc1 := 18) rfl (ci := 12) (k := 68) (ns := 0) (by decide +kernel) (q_ob e_224 rfl) (v := .ref 510) rfl ?_
  refine q_sg x_58_18 rfl rfl (pc1 := 19) (lv1 := [(0, .ref 448), (1, .int 0), (2, .int k)]) (st1 := [.int 0, .ref 510, .int k]) rfl ?_
  refine q_s_ial x_58_19 (pc1 := 20) rfl (q_ar e_255 rfl) (by decide +kernel) (u := 0) rfl ?_
  refine q_s_ic x_58_20 (t := 27) (by decide +kernel) (show q_c2 .ge k 0 = true by simpa [q_c2] using (Int32.not_lt.mp hk)) (pc1 := 27) rfl ?_
  refine q_sg x_58_27 rfl rfl (pc1 := 28) (lv1 := [(0, .ref 448), (1, .int 0), (2, .int k)]) (st1 := [.int 0]) rfl ?_
  exact q_sr x_58_28 rfl
theorem t_B1 {k : Int32} {d : Nat} (hk : k < 0) : q_callf 4000 (d + 1) 58 [.ref 448, .int 1, .int k] p_E = some (some (.int 0), p_E, 0, 0) := by
  refine q_cg rfl ?_
  refine q_sg x_58_0 rfl rfl (pc1 := 1) (lv1 := [(0, .ref 448), (1, .int 1), (2, .int k)]) (st1 := [.int 1]) rfl ?_
  refine q_sg x_58_1 rfl rfl (pc1 := 4) (lv1 := [(0, .ref 448), (1, .int 1), (2, .int k)]) (st1 := []) rfl ?_
  refine q_sg x_58_4 rfl rfl (pc1 := 5) (lv1 := [(0, .ref 448), (1, .int 1), (2, .int k)]) (st1 := [.int 1]) rfl ?_
  refine q_sg x_58_5 rfl rfl (pc1 := 6) (lv1 := [(0, .ref 448), (1, .int 1), (2, .int k)]) (st1 := [.int 1, .int 1]) rfl ?_
  refine q_sg x_58_6 rfl rfl (pc1 := 9) (lv1 := [(0, .ref 448), (1, .int 1), (2, .int k)]) (st1 := []) rfl ?_
  refine q_sg x_58_9 rfl rfl (pc1 := 10) (lv1 := [(0, .ref 448), (1, .int 1), (2, .int k)]) (st1 := [.int k]) rfl ?_
  refine q_s_if x_58_10 (t := 27) (by decide +kernel) (show q_c1 .lt k = true by simpa [q_c1] using hk) (pc1 := 27) rfl ?_
  refine q_sg x_58_27 rfl rfl (pc1 := 28) (lv1 := [(0, .ref 448), (1, .int 1), (2, .int k)]) (st1 := [.int 0]) rfl ?_
  exact q_sr x_58_28 rfl
theorem t_C1 {k : Int32} {d : Nat} (hk : ¬ k < 0) : q_callf 4000 (d + 1) 58 [.ref 448, .int 1, .int k] p_E = some (some (.int 0), p_E, 0, 0) := by
  refine q_cg rfl ?_
  refine q_sg x_58_0 rfl rfl (pc1 := 1) (lv1 := [(0, .ref 448), (1, .int 1), (2, .int k)]) (st1 := [.int 1]) rfl ?_
  refine q_sg x_58_1 rfl rfl (pc1 := 4) (lv1 := [(0, .ref 448), (1, .int 1), (2, .int k)]) (st1 := []) rfl ?_
  refine q_sg x_58_4 rfl rfl (pc1 := 5) (lv1 := [(0, .ref 448), (1, .int 1), (2, .int k)]) (st1 := [.int 1]) rfl ?_
  refine q_sg x_58_5 rfl rfl (pc1 := 6) (lv1 := [(0, .ref 448), (1, .int 1), (2, .int k)]) (st1 := [.int 1, .int 1]) rfl ?_
  refine q_sg x_58_6 rfl rfl (pc1 := 9) (lv1 := [(0, .ref 448), (1, .int 1), (2, .int k)]) (st1 := []) rfl ?_
  refine q_sg x_58_9 rfl rfl (pc1 := 10) (lv1 := [(0, .ref 448), (1, .int 1), (2, .int k)]) (st1 := [.int k]) rfl ?_
  refine q_s_if x_58_10 (t := 27) (by decide +kernel) (show q_c1 .lt k = false by simpa [q_c1] using hk) (pc1 := 13) rfl ?_
  refine q_sg x_58_13 rfl rfl (pc1 := 14) (lv1 := [(0, .ref 448), (1, .int 1), (2, .int k)]) (st1 := [.int k]) rfl ?_
  refine q_sg x_58_14 rfl rfl (pc1 := 15) (lv1 := [(0, .ref 448), (1, .int 1), (2, .int k)]) (st1 := [.ref 448, .int k]) rfl ?_
  refine q_s_get x_58_15 rfl (pc1 := 18) rfl (ci := 12) (k := 68) (ns := 0) (by decide +kernel) (q_ob e_224 rfl) (v := .ref 510) rfl ?_
  refine q_sg x_58_18 rfl rfl (pc1 := 19) (lv1 := [(0, .ref 448), (1, .int 1), (2, .int k)]) (st1 := [.int 1, .ref 510, .int k]) rfl ?_
  refine q_s_ial x_58_19 (pc1 := 20) rfl (q_ar e_255 rfl) (by decide +kernel) (u := 0) rfl ?_
  refine q_s_ic x_58_20 (t := 27) (by decide +kernel) (show q_c2 .ge k 0 = true by simpa [q_c2] using (Int32.not_lt.mp hk)) (pc1 := 27) rfl ?_
  refine q_sg x_58_27 rfl rfl (pc1 := 28) (lv1 := [(0, .ref 448), (1, .int 1), (2, .int k)]) (st1 := [.int 0]) rfl ?_
  exact q_sr x_58_28 rfl
theorem t_N (a k : Int32) (d : Nat) : q_callf 4000 (d + 1) 58 [.ref 448, .int a, .int k] p_E = some (some (.int 0), p_E, 0, 0) := by
  by_cases h0 : a = 0
  · subst h0
    by_cases hk : k < 0
    · exact t_B0 hk
    · exact t_C0 hk
  · by_cases h1 : a = 1
    · subst h1
      by_cases hk : k < 0
      · exact t_B1 hk
      · exact t_C1 hk
    · exact t_A h0 h1
theorem s_num (a k : Int32) (d : Nat) : q_callf 4000 (d + 2) 23 [.ref 0, .int a, .int k] p_E = some (some (.int 0), p_E, 0, 0) := by
  refine q_cg rfl ?_
  refine q_sg x_23_0 rfl rfl (pc1 := 1) (lv1 := [(0, .ref 0), (1, .int a), (2, .int k)]) (st1 := [.ref 0]) rfl ?_
  refine q_sg x_23_1 rfl rfl (pc1 := 2) (lv1 := [(0, .ref 0), (1, .int a), (2, .int k)]) (st1 := [.int a, .ref 0]) rfl ?_
  refine q_sg x_23_2 rfl rfl (pc1 := 3) (lv1 := [(0, .ref 0), (1, .int a), (2, .int k)]) (st1 := [.int k, .int a, .ref 0]) rfl ?_
  refine q_s_inv x_23_3 (y := 26) (z := 0) (by decide +kernel) (pc1 := 6) rfl (as := [.int a, .int k]) (r := []) rfl rfl rfl rfl (ci := 11) rfl (by decide) (q_ob e_0 rfl) (Nat.zero_le _) (s_N a k _) (st1 := [.int 0]) rfl ?_
  refine q_sg x_23_6 rfl rfl (pc1 := 23) (lv1 := [(0, .ref 0), (1, .int a), (2, .int k)]) (st1 := []) rfl ?_
  refine q_sg x_23_23 rfl rfl (pc1 := 24) (lv1 := [(0, .ref 0), (1, .int a), (2, .int k)]) (st1 := [.int 0]) rfl ?_
  exact q_sr x_23_24 rfl
theorem s_siz (a k : Int32) (d : Nat) : q_callf 4000 (d + 2) 24 [.ref 0, .int a, .int k] p_E = some (some (.int (-1)), p_E, 0, 0) := by
  refine q_cg rfl ?_
  refine q_sg x_24_0 rfl rfl (pc1 := 1) (lv1 := [(0, .ref 0), (1, .int a), (2, .int k)]) (st1 := [.ref 0]) rfl ?_
  refine q_sg x_24_1 rfl rfl (pc1 := 2) (lv1 := [(0, .ref 0), (1, .int a), (2, .int k)]) (st1 := [.int a, .ref 0]) rfl ?_
  refine q_sg x_24_2 rfl rfl (pc1 := 3) (lv1 := [(0, .ref 0), (1, .int a), (2, .int k)]) (st1 := [.int k, .int a, .ref 0]) rfl ?_
  refine q_s_inv x_24_3 (y := 26) (z := 0) (by decide +kernel) (pc1 := 6) rfl (as := [.int a, .int k]) (r := []) rfl rfl rfl rfl (ci := 11) rfl (by decide) (q_ob e_0 rfl) (Nat.zero_le _) (s_N a k _) (st1 := [.int 0]) rfl ?_
  refine q_sg x_24_6 rfl rfl (pc1 := 32) (lv1 := [(0, .ref 0), (1, .int a), (2, .int k)]) (st1 := []) rfl ?_
  refine q_sg x_24_32 rfl rfl (pc1 := 33) (lv1 := [(0, .ref 0), (1, .int a), (2, .int k)]) (st1 := [.int (-1)]) rfl ?_
  exact q_sr x_24_33 rfl
theorem s_byt (a k i : Int32) (d : Nat) : q_callf 4000 (d + 2) 25 [.ref 0, .int a, .int k, .int i] p_E = some (some (.int (-1)), p_E, 0, 0) := by
  refine q_cg rfl ?_
  refine q_sg x_25_0 rfl rfl (pc1 := 1) (lv1 := [(0, .ref 0), (1, .int a), (2, .int k), (3, .int i)]) (st1 := [.ref 0]) rfl ?_
  refine q_sg x_25_1 rfl rfl (pc1 := 2) (lv1 := [(0, .ref 0), (1, .int a), (2, .int k), (3, .int i)]) (st1 := [.int a, .ref 0]) rfl ?_
  refine q_sg x_25_2 rfl rfl (pc1 := 3) (lv1 := [(0, .ref 0), (1, .int a), (2, .int k), (3, .int i)]) (st1 := [.int k, .int a, .ref 0]) rfl ?_
  refine q_s_inv x_25_3 (y := 26) (z := 0) (by decide +kernel) (pc1 := 6) rfl (as := [.int a, .int k]) (r := []) rfl rfl rfl rfl (ci := 11) rfl (by decide) (q_ob e_0 rfl) (Nat.zero_le _) (s_N a k _) (st1 := [.int 0]) rfl ?_
  refine q_sg x_25_6 rfl rfl (pc1 := 13) (lv1 := [(0, .ref 0), (1, .int a), (2, .int k), (3, .int i)]) (st1 := []) rfl ?_
  refine q_sg x_25_13 rfl rfl (pc1 := 14) (lv1 := [(0, .ref 0), (1, .int a), (2, .int k), (3, .int i)]) (st1 := [.int (-1)]) rfl ?_
  exact q_sr x_25_14 rfl
theorem t_num (a k : Int32) (d : Nat) : q_callf 4000 (d + 2) 59 [.ref 448, .int a, .int k] p_E = some (some (.int 0), p_E, 0, 0) := by
  refine q_cg rfl ?_
  refine q_sg x_59_0 rfl rfl (pc1 := 1) (lv1 := [(0, .ref 448), (1, .int a), (2, .int k)]) (st1 := [.ref 448]) rfl ?_
  refine q_sg x_59_1 rfl rfl (pc1 := 2) (lv1 := [(0, .ref 448), (1, .int a), (2, .int k)]) (st1 := [.int a, .ref 448]) rfl ?_
  refine q_sg x_59_2 rfl rfl (pc1 := 3) (lv1 := [(0, .ref 448), (1, .int a), (2, .int k)]) (st1 := [.int k, .int a, .ref 448]) rfl ?_
  refine q_s_inv x_59_3 (y := 58) (z := 0) (by decide +kernel) (pc1 := 6) rfl (as := [.int a, .int k]) (r := []) rfl rfl rfl rfl (ci := 12) rfl (by decide) (q_ob e_224 rfl) (Nat.zero_le _) (t_N a k _) (st1 := [.int 0]) rfl ?_
  refine q_sg x_59_6 rfl rfl (pc1 := 24) (lv1 := [(0, .ref 448), (1, .int a), (2, .int k)]) (st1 := []) rfl ?_
  refine q_sg x_59_24 rfl rfl (pc1 := 25) (lv1 := [(0, .ref 448), (1, .int a), (2, .int k)]) (st1 := [.int 0]) rfl ?_
  exact q_sr x_59_25 rfl
theorem t_siz (a k : Int32) (d : Nat) : q_callf 4000 (d + 2) 60 [.ref 448, .int a, .int k] p_E = some (some (.int (-1)), p_E, 0, 0) := by
  refine q_cg rfl ?_
  refine q_sg x_60_0 rfl rfl (pc1 := 1) (lv1 := [(0, .ref 448), (1, .int a), (2, .int k)]) (st1 := [.ref 448]) rfl ?_
  refine q_sg x_60_1 rfl rfl (pc1 := 2) (lv1 := [(0, .ref 448), (1, .int a), (2, .int k)]) (st1 := [.int a, .ref 448]) rfl ?_
  refine q_sg x_60_2 rfl rfl (pc1 := 3) (lv1 := [(0, .ref 448), (1, .int a), (2, .int k)]) (st1 := [.int k, .int a, .ref 448]) rfl ?_
  refine q_s_inv x_60_3 (y := 58) (z := 0) (by decide +kernel) (pc1 := 6) rfl (as := [.int a, .int k]) (r := []) rfl rfl rfl rfl (ci := 12) rfl (by decide) (q_ob e_224 rfl) (Nat.zero_le _) (t_N a k _) (st1 := [.int 0]) rfl ?_
  refine q_sg x_60_6 rfl rfl (pc1 := 22) (lv1 := [(0, .ref 448), (1, .int a), (2, .int k)]) (st1 := []) rfl ?_
  refine q_sg x_60_22 rfl rfl (pc1 := 23) (lv1 := [(0, .ref 448), (1, .int a), (2, .int k)]) (st1 := [.int (-1)]) rfl ?_
  exact q_sr x_60_23 rfl
theorem t_byt (a k i : Int32) (d : Nat) : q_callf 4000 (d + 2) 61 [.ref 448, .int a, .int k, .int i] p_E = some (some (.int (-1)), p_E, 0, 0) := by
  refine q_cg rfl ?_
  refine q_sg x_61_0 rfl rfl (pc1 := 1) (lv1 := [(0, .ref 448), (1, .int a), (2, .int k), (3, .int i)]) (st1 := [.ref 448]) rfl ?_
  refine q_sg x_61_1 rfl rfl (pc1 := 2) (lv1 := [(0, .ref 448), (1, .int a), (2, .int k), (3, .int i)]) (st1 := [.int a, .ref 448]) rfl ?_
  refine q_sg x_61_2 rfl rfl (pc1 := 3) (lv1 := [(0, .ref 448), (1, .int a), (2, .int k), (3, .int i)]) (st1 := [.int k, .int a, .ref 448]) rfl ?_
  refine q_s_inv x_61_3 (y := 58) (z := 0) (by decide +kernel) (pc1 := 6) rfl (as := [.int a, .int k]) (r := []) rfl rfl rfl rfl (ci := 12) rfl (by decide) (q_ob e_224 rfl) (Nat.zero_le _) (t_N a k _) (st1 := [.int 0]) rfl ?_
  refine q_sg x_61_6 rfl rfl (pc1 := 42) (lv1 := [(0, .ref 448), (1, .int a), (2, .int k), (3, .int i)]) (st1 := []) rfl ?_
  refine q_sg x_61_42 rfl rfl (pc1 := 43) (lv1 := [(0, .ref 448), (1, .int a), (2, .int k), (3, .int i)]) (st1 := [.int (-1)]) rfl ?_
  exact q_sr x_61_43 rfl
theorem s_ansB {k : Int32} {d : Nat} (hk : k < 0) : q_callf 4000 (d + 1) 21 [.ref 0, .int k] p_E = some (some (.int (-1)), p_E, 0, 0) := by
  refine q_cg rfl ?_
  refine q_sg x_21_0 rfl rfl (pc1 := 1) (lv1 := [(0, .ref 0), (1, .int k)]) (st1 := [.int k]) rfl ?_
  refine q_s_if x_21_1 (t := 43) (by decide +kernel) (show q_c1 .lt k = true by simpa [q_c1] using hk) (pc1 := 43) rfl ?_
  refine q_sg x_21_43 rfl rfl (pc1 := 44) (lv1 := [(0, .ref 0), (1, .int k)]) (st1 := [.int (-1)]) rfl ?_
  exact q_sr x_21_44 rfl
theorem s_ansC {k : Int32} {d : Nat} (hk : ¬ k < 0) : q_callf 4000 (d + 1) 21 [.ref 0, .int k] p_E = some (some (.int (-1)), p_E, 0, 0) := by
  refine q_cg rfl ?_
  refine q_sg x_21_0 rfl rfl (pc1 := 1) (lv1 := [(0, .ref 0), (1, .int k)]) (st1 := [.int k]) rfl ?_
  refine q_s_if x_21_1 (t := 43) (by decide +kernel) (show q_c1 .lt k = false by simpa [q_c1] using hk) (pc1 := 4) rfl ?_
  refine q_sg x_21_4 rfl rfl (pc1 := 5) (lv1 := [(0, .ref 0), (1, .int k)]) (st1 := [.int k]) rfl ?_
  refine q_sg x_21_5 rfl rfl (pc1 := 6) (lv1 := [(0, .ref 0), (1, .int k)]) (st1 := [.ref 0, .int k]) rfl ?_
  refine q_s_get x_21_6 rfl (pc1 := 9) rfl (ci := 11) (k := 1) (ns := 0) (by decide +kernel) (q_ob e_0 rfl) (v := .ref 8) rfl ?_
  refine q_s_get x_21_9 rfl (pc1 := 12) rfl (ci := 4) (k := 1) (ns := 1) (by decide +kernel) (q_ob e_4 rfl) (v := .int 0) rfl ?_
  refine q_s_ic x_21_12 (t := 43) (by decide +kernel) (show q_c2 .ge k 0 = true by simpa [q_c2] using (Int32.not_lt.mp hk)) (pc1 := 43) rfl ?_
  refine q_sg x_21_43 rfl rfl (pc1 := 44) (lv1 := [(0, .ref 0), (1, .int k)]) (st1 := [.int (-1)]) rfl ?_
  exact q_sr x_21_44 rfl
theorem s_ans (k : Int32) (d : Nat) : q_callf 4000 (d + 1) 21 [.ref 0, .int k] p_E = some (some (.int (-1)), p_E, 0, 0) := by
  by_cases hk : k < 0
  · exact s_ansB hk
  · exact s_ansC hk
theorem t_ansB {k : Int32} {d : Nat} (hk : k < 0) : q_callf 4000 (d + 1) 56 [.ref 448, .int k] p_E = some (some (.int (-1)), p_E, 0, 0) := by
  refine q_cg rfl ?_
  refine q_sg x_56_0 rfl rfl (pc1 := 1) (lv1 := [(0, .ref 448), (1, .int k)]) (st1 := [.int k]) rfl ?_
  refine q_s_if x_56_1 (t := 24) (by decide +kernel) (show q_c1 .lt k = true by simpa [q_c1] using hk) (pc1 := 24) rfl ?_
  refine q_sg x_56_24 rfl rfl (pc1 := 25) (lv1 := [(0, .ref 448), (1, .int k)]) (st1 := [.int (-1)]) rfl ?_
  exact q_sr x_56_25 rfl
theorem t_ansC {k : Int32} {d : Nat} (hk : ¬ k < 0) : q_callf 4000 (d + 1) 56 [.ref 448, .int k] p_E = some (some (.int (-1)), p_E, 0, 0) := by
  refine q_cg rfl ?_
  refine q_sg x_56_0 rfl rfl (pc1 := 1) (lv1 := [(0, .ref 448), (1, .int k)]) (st1 := [.int k]) rfl ?_
  refine q_s_if x_56_1 (t := 24) (by decide +kernel) (show q_c1 .lt k = false by simpa [q_c1] using hk) (pc1 := 4) rfl ?_
  refine q_sg x_56_4 rfl rfl (pc1 := 5) (lv1 := [(0, .ref 448), (1, .int k)]) (st1 := [.int k]) rfl ?_
  refine q_sg x_56_5 rfl rfl (pc1 := 6) (lv1 := [(0, .ref 448), (1, .int k)]) (st1 := [.ref 448, .int k]) rfl ?_
  refine q_s_get x_56_6 rfl (pc1 := 9) rfl (ci := 12) (k := 3) (ns := 0) (by decide +kernel) (q_ob e_224 rfl) (v := .int 0) rfl ?_
  refine q_s_ic x_56_9 (t := 24) (by decide +kernel) (show q_c2 .ge k 0 = true by simpa [q_c2] using (Int32.not_lt.mp hk)) (pc1 := 24) rfl ?_
  refine q_sg x_56_24 rfl rfl (pc1 := 25) (lv1 := [(0, .ref 448), (1, .int k)]) (st1 := [.int (-1)]) rfl ?_
  exact q_sr x_56_25 rfl
theorem t_ans (k : Int32) (d : Nat) : q_callf 4000 (d + 1) 56 [.ref 448, .int k] p_E = some (some (.int (-1)), p_E, 0, 0) := by
  by_cases hk : k < 0
  · exact t_ansB hk
  · exact t_ansC hk
theorem s_askB {k : Int32} {d : Nat} (hk : k < 0) : q_callf 4000 (d + 1) 18 [.ref 0, .int k] p_E = some (some (.int (-1)), p_E, 0, 0) := by
  refine q_cg rfl ?_
  refine q_sg x_18_0 rfl rfl (pc1 := 1) (lv1 := [(0, .ref 0), (1, .int k)]) (st1 := [.int k]) rfl ?_
  refine q_s_if x_18_1 (t := 12) (by decide +kernel) (show q_c1 .lt k = true by simpa [q_c1] using hk) (pc1 := 12) rfl ?_
  refine q_sg x_18_12 rfl rfl (pc1 := 13) (lv1 := [(0, .ref 0), (1, .int k)]) (st1 := [.int (-1)]) rfl ?_
  exact q_sr x_18_13 rfl
theorem s_askC {k : Int32} {d : Nat} (hk : ¬ k < 0) (h0 : ¬ k ≤ 0) : q_callf 4000 (d + 1) 18 [.ref 0, .int k] p_E = some (some (.int (-1)), p_E, 0, 0) := by
  refine q_cg rfl ?_
  refine q_sg x_18_0 rfl rfl (pc1 := 1) (lv1 := [(0, .ref 0), (1, .int k)]) (st1 := [.int k]) rfl ?_
  refine q_s_if x_18_1 (t := 12) (by decide +kernel) (show q_c1 .lt k = false by simpa [q_c1] using hk) (pc1 := 4) rfl ?_
  refine q_sg x_18_4 rfl rfl (pc1 := 5) (lv1 := [(0, .ref 0), (1, .int k)]) (st1 := [.int k]) rfl ?_
  refine q_sg x_18_5 rfl rfl (pc1 := 6) (lv1 := [(0, .ref 0), (1, .int k)]) (st1 := [.ref 0, .int k]) rfl ?_
  refine q_s_get x_18_6 rfl (pc1 := 9) rfl (ci := 11) (k := 12) (ns := 0) (by decide +kernel) (q_ob e_0 rfl) (v := .int 0) rfl ?_
  refine q_s_ic x_18_9 (t := 14) (by decide +kernel) (show q_c2 .le k 0 = false by simpa [q_c2] using h0) (pc1 := 12) rfl ?_
  refine q_sg x_18_12 rfl rfl (pc1 := 13) (lv1 := [(0, .ref 0), (1, .int k)]) (st1 := [.int (-1)]) rfl ?_
  exact q_sr x_18_13 rfl
theorem t_askB {k : Int32} {d : Nat} (hk : k < 0) : q_callf 4000 (d + 1) 41 [.ref 448, .int k] p_E = some (some (.int (-1)), p_E, 0, 0) := by
  refine q_cg rfl ?_
  refine q_sg x_41_0 rfl rfl (pc1 := 1) (lv1 := [(0, .ref 448), (1, .int k)]) (st1 := [.int k]) rfl ?_
  refine q_s_if x_41_1 (t := 12) (by decide +kernel) (show q_c1 .lt k = true by simpa [q_c1] using hk) (pc1 := 12) rfl ?_
  refine q_sg x_41_12 rfl rfl (pc1 := 13) (lv1 := [(0, .ref 448), (1, .int k)]) (st1 := [.int (-1)]) rfl ?_
  exact q_sr x_41_13 rfl
theorem t_askC {k : Int32} {d : Nat} (hk : ¬ k < 0) (h0 : ¬ k ≤ 0) : q_callf 4000 (d + 1) 41 [.ref 448, .int k] p_E = some (some (.int (-1)), p_E, 0, 0) := by
  refine q_cg rfl ?_
  refine q_sg x_41_0 rfl rfl (pc1 := 1) (lv1 := [(0, .ref 448), (1, .int k)]) (st1 := [.int k]) rfl ?_
  refine q_s_if x_41_1 (t := 12) (by decide +kernel) (show q_c1 .lt k = false by simpa [q_c1] using hk) (pc1 := 4) rfl ?_
  refine q_sg x_41_4 rfl rfl (pc1 := 5) (lv1 := [(0, .ref 448), (1, .int k)]) (st1 := [.int k]) rfl ?_
  refine q_sg x_41_5 rfl rfl (pc1 := 6) (lv1 := [(0, .ref 448), (1, .int k)]) (st1 := [.ref 448, .int k]) rfl ?_
  refine q_s_get x_41_6 rfl (pc1 := 9) rfl (ci := 12) (k := 2) (ns := 0) (by decide +kernel) (q_ob e_224 rfl) (v := .int 0) rfl ?_
  refine q_s_ic x_41_9 (t := 14) (by decide +kernel) (show q_c2 .le k 0 = false by simpa [q_c2] using h0) (pc1 := 12) rfl ?_
  refine q_sg x_41_12 rfl rfl (pc1 := 13) (lv1 := [(0, .ref 448), (1, .int k)]) (st1 := [.int (-1)]) rfl ?_
  exact q_sr x_41_13 rfl
theorem s_sta {k : Int32} {d : Nat} (hq : k.toInt < 0 ∨ 7 < k.toInt) : q_callf 4000 (d + 1) 22 [.ref 0, .int k] p_E = some (some (.int (-1)), p_E, 0, 0) := by
  refine q_cg rfl ?_
  refine q_sg x_22_0 rfl rfl (pc1 := 1) (lv1 := [(0, .ref 0), (1, .int k)]) (st1 := [.int k]) rfl ?_
  refine q_s_tab x_22_1 hq (pc1 := 95) (by decide +kernel) ?_
  refine q_sg x_22_95 rfl rfl (pc1 := 96) (lv1 := [(0, .ref 0), (1, .int k)]) (st1 := [.int (-1)]) rfl ?_
  exact q_sr x_22_96 rfl
theorem t_sta {k : Int32} {d : Nat} (h0 : ¬ k = 0) (h1 : ¬ k = 1) (h2 : ¬ k = 2) (h3 : ¬ k = 3) (h4 : ¬ k = 4) (h5 : ¬ k = 5) (h6 : ¬ k = 6) (h7 : ¬ k = 7) : q_callf 4000 (d + 1) 57 [.ref 448, .int k] p_E = some (some (.int (-1)), p_E, 0, 0) := by
  refine q_cg rfl ?_
  refine q_sg x_57_0 rfl rfl (pc1 := 1) (lv1 := [(0, .ref 448), (1, .int k)]) (st1 := [.int k]) rfl ?_
  refine q_s_if x_57_1 (t := 9) (by decide +kernel) (show q_c1 .eq k = false by simpa [q_c1] using h0) (pc1 := 4) rfl ?_
  refine q_sg x_57_4 rfl rfl (pc1 := 5) (lv1 := [(0, .ref 448), (1, .int k)]) (st1 := [.int k]) rfl ?_
  refine q_sg x_57_5 rfl rfl (pc1 := 6) (lv1 := [(0, .ref 448), (1, .int k)]) (st1 := [.int 1, .int k]) rfl ?_
  refine q_s_ic x_57_6 (t := 16) (by decide +kernel) (show q_c2 .ne k 1 = true by simpa [q_c2] using h1) (pc1 := 16) rfl ?_
  refine q_sg x_57_16 rfl rfl (pc1 := 17) (lv1 := [(0, .ref 448), (1, .int k)]) (st1 := [.int k]) rfl ?_
  refine q_sg x_57_17 rfl rfl (pc1 := 18) (lv1 := [(0, .ref 448), (1, .int k)]) (st1 := [.int 2, .int k]) rfl ?_
  refine q_s_ic x_57_18 (t := 26) (by decide +kernel) (show q_c2 .eq k 2 = false by simpa [q_c2] using h2) (pc1 := 21) rfl ?_
  refine q_sg x_57_21 rfl rfl (pc1 := 22) (lv1 := [(0, .ref 448), (1, .int k)]) (st1 := [.int k]) rfl ?_
  refine q_sg x_57_22 rfl rfl (pc1 := 23) (lv1 := [(0, .ref 448), (1, .int k)]) (st1 := [.int 3, .int k]) rfl ?_
  refine q_s_ic x_57_23 (t := 35) (by decide +kernel) (show q_c2 .ne k 3 = true by simpa [q_c2] using h3) (pc1 := 35) rfl ?_
  refine q_sg x_57_35 rfl rfl (pc1 := 36) (lv1 := [(0, .ref 448), (1, .int k)]) (st1 := [.int k]) rfl ?_
  refine q_sg x_57_36 rfl rfl (pc1 := 38) (lv1 := [(0, .ref 448), (1, .int k)]) (st1 := [.int 6, .int k]) rfl ?_
  refine q_s_ic x_57_38 (t := 46) (by decide +kernel) (show q_c2 .ne k 6 = true by simpa [q_c2] using h6) (pc1 := 46) rfl ?_
  refine q_sg x_57_46 rfl rfl (pc1 := 47) (lv1 := [(0, .ref 448), (1, .int k)]) (st1 := [.int k]) rfl ?_
  refine q_sg x_57_47 rfl rfl (pc1 := 49) (lv1 := [(0, .ref 448), (1, .int k)]) (st1 := [.int 7, .int k]) rfl ?_
  refine q_s_ic x_57_49 (t := 57) (by decide +kernel) (show q_c2 .ne k 7 = true by simpa [q_c2] using h7) (pc1 := 57) rfl ?_
  refine q_sg x_57_57 rfl rfl (pc1 := 58) (lv1 := [(0, .ref 448), (1, .int k)]) (st1 := [.int k]) rfl ?_
  refine q_sg x_57_58 rfl rfl (pc1 := 59) (lv1 := [(0, .ref 448), (1, .int k)]) (st1 := [.int 4, .int k]) rfl ?_
  refine q_s_ic x_57_59 (t := 69) (by decide +kernel) (show q_c2 .eq k 4 = false by simpa [q_c2] using h4) (pc1 := 62) rfl ?_
  refine q_sg x_57_62 rfl rfl (pc1 := 63) (lv1 := [(0, .ref 448), (1, .int k)]) (st1 := [.int k]) rfl ?_
  refine q_sg x_57_63 rfl rfl (pc1 := 64) (lv1 := [(0, .ref 448), (1, .int k)]) (st1 := [.int 5, .int k]) rfl ?_
  refine q_s_ic x_57_64 (t := 69) (by decide +kernel) (show q_c2 .eq k 5 = false by simpa [q_c2] using h5) (pc1 := 67) rfl ?_
  refine q_sg x_57_67 rfl rfl (pc1 := 68) (lv1 := [(0, .ref 448), (1, .int k)]) (st1 := [.int (-1)]) rfl ?_
  exact q_sr x_57_68 rfl
def h_F (G : q_H) (t : Int32) (L : List (Nat × Int32)) : q_H := (G.set 0 (.inr (11, [.ref 4, .ref 8, .ref 12, .ref 14, .ref 22, .ref 34, .ref 74, .ref 90, .ref 96, .ref 102, .ref 444, .ref 446, .int t, .int 0, .int 0, .int 0, .ref 104, .int 0, .int 0]))).set 2 (.inl (0, 246408, .inl L))
def m_F (G : q_H) (t : Int32) (L : List (Nat × Int32)) : q_H := (G.set 224 (.inr (12, [.ref 450, .ref 452, .int t, .int 0, .int 0, .int 0, .int 0, .int 0, .int 0, .ref 454, .int 0, .int 0, .ref 456, .int 0, .int 0, .int 0, .int 0, .int 0, .ref 458, .int 0, .ref 460, .int 0, .ref 462, .int 0, .int 0, .int 0, .int 0, .int 0, .int 0, .int 0, .ref 464, .ref 466, .int 0, .int 0, .ref 468, .ref 470, .ref 472, .ref 474, .ref 476, .ref 478, .int 0, .int 0, .int 0, .int 0, .int 0, .ref 480, .ref 482, .int (-1), .ref 484, .ref 486, .ref 488, .ref 490, .ref 492, .ref 494, .ref 496, .int 0, .int 0, .ref 498, .ref 500, .ref 502, .ref 504, .int 0, .ref 506, .ref 508, .int 0, .int 0, .int 0, .int 0, .ref 510, .ref 512, .ref 514, .ref 516, .ref 518, .ref 520, .ref 522, .ref 524, .ref 526, .int 0]))).set 226 (.inl (1, 2000, .inl L))
theorem h_F0 {G : q_H} (hG : 264 ≤ G.length) (t : Int32) (L : List (Nat × Int32)) : (h_F G t L)[0]? = some (.inr (11, [.ref 4, .ref 8, .ref 12, .ref 14, .ref 22, .ref 34, .ref 74, .ref 90, .ref 96, .ref 102, .ref 444, .ref 446, .int t, .int 0, .int 0, .int 0, .ref 104, .int 0, .int 0])) := by
  unfold h_F
  rw [List.getElem?_set_ne (by decide), List.getElem?_set_self (by omega)]
theorem h_F1 {G : q_H} (hG : 264 ≤ G.length) (t : Int32) (L : List (Nat × Int32)) : (h_F G t L)[2]? = some (.inl (0, 246408, .inl L)) := by
  unfold h_F
  rw [List.getElem?_set_self (by rw [List.length_set]; omega)]
theorem h_Fs {G : q_H} (t t1 : Int32) (L : List (Nat × Int32)) : (h_F G t L).set 0 (.inr (11, [.ref 4, .ref 8, .ref 12, .ref 14, .ref 22, .ref 34, .ref 74, .ref 90, .ref 96, .ref 102, .ref 444, .ref 446, .int t1, .int 0, .int 0, .int 0, .ref 104, .int 0, .int 0])) = h_F G t1 L := by
  unfold h_F
  rw [List.set_comm _ _ (by decide), List.set_set]
theorem h_Fa {G : q_H} (t : Int32) (L L1 : List (Nat × Int32)) : (h_F G t L).set 2 (.inl (0, 246408, .inl L1)) = h_F G t L1 := by
  unfold h_F
  rw [List.set_set]
theorem h_F_eq {G : q_H} {t : Int32} {L : List (Nat × Int32)} (h0 : G[0]? = some (.inr (11, [.ref 4, .ref 8, .ref 12, .ref 14, .ref 22, .ref 34, .ref 74, .ref 90, .ref 96, .ref 102, .ref 444, .ref 446, .int t, .int 0, .int 0, .int 0, .ref 104, .int 0, .int 0]))) (h1 : G[2]? = some (.inl (0, 246408, .inl L))) : h_F G t L = G := by
  unfold h_F
  rw [q_setE_same h0, q_setE_same h1]
theorem m_F0 {G : q_H} (hG : 264 ≤ G.length) (t : Int32) (L : List (Nat × Int32)) : (m_F G t L)[224]? = some (.inr (12, [.ref 450, .ref 452, .int t, .int 0, .int 0, .int 0, .int 0, .int 0, .int 0, .ref 454, .int 0, .int 0, .ref 456, .int 0, .int 0, .int 0, .int 0, .int 0, .ref 458, .int 0, .ref 460, .int 0, .ref 462, .int 0, .int 0, .int 0, .int 0, .int 0, .int 0, .int 0, .ref 464, .ref 466, .int 0, .int 0, .ref 468, .ref 470, .ref 472, .ref 474, .ref 476, .ref 478, .int 0, .int 0, .int 0, .int 0, .int 0, .ref 480, .ref 482, .int (-1), .ref 484, .ref 486, .ref 488, .ref 490, .ref 492, .ref 494, .ref 496, .int 0, .int 0, .ref 498, .ref 500, .ref 502, .ref 504, .int 0, .ref 506, .ref 508, .int 0, .int 0, .int 0, .int 0, .ref 510, .ref 512, .ref 514, .ref 516, .ref 518, .ref 520, .ref 522, .ref 524, .ref 526, .int 0])) := by
  unfold m_F
  rw [List.getElem?_set_ne (by decide), List.getElem?_set_self (by omega)]
theorem m_F1 {G : q_H} (hG : 264 ≤ G.length) (t : Int32) (L : List (Nat × Int32)) : (m_F G t L)[226]? = some (.inl (1, 2000, .inl L)) := by
  unfold m_F
  rw [List.getElem?_set_self (by rw [List.length_set]; omega)]
theorem m_Fs {G : q_H} (t t1 : Int32) (L : List (Nat × Int32)) : (m_F G t L).set 224 (.inr (12, [.ref 450, .ref 452, .int t1, .int 0, .int 0, .int 0, .int 0, .int 0, .int 0, .ref 454, .int 0, .int 0, .ref 456, .int 0, .int 0, .int 0, .int 0, .int 0, .ref 458, .int 0, .ref 460, .int 0, .ref 462, .int 0, .int 0, .int 0, .int 0, .int 0, .int 0, .int 0, .ref 464, .ref 466, .int 0, .int 0, .ref 468, .ref 470, .ref 472, .ref 474, .ref 476, .ref 478, .int 0, .int 0, .int 0, .int 0, .int 0, .ref 480, .ref 482, .int (-1), .ref 484, .ref 486, .ref 488, .ref 490, .ref 492, .ref 494, .ref 496, .int 0, .int 0, .ref 498, .ref 500, .ref 502, .ref 504, .int 0, .ref 506, .ref 508, .int 0, .int 0, .int 0, .int 0, .ref 510, .ref 512, .ref 514, .ref 516, .ref 518, .ref 520, .ref 522, .ref 524, .ref 526, .int 0])) = m_F G t1 L := by
  unfold m_F
  rw [List.set_comm _ _ (by decide), List.set_set]
theorem m_Fa {G : q_H} (t : Int32) (L L1 : List (Nat × Int32)) : (m_F G t L).set 226 (.inl (1, 2000, .inl L1)) = m_F G t L1 := by
  unfold m_F
  rw [List.set_set]
theorem m_F_eq {G : q_H} {t : Int32} {L : List (Nat × Int32)} (h0 : G[224]? = some (.inr (12, [.ref 450, .ref 452, .int t, .int 0, .int 0, .int 0, .int 0, .int 0, .int 0, .ref 454, .int 0, .int 0, .ref 456, .int 0, .int 0, .int 0, .int 0, .int 0, .ref 458, .int 0, .ref 460, .int 0, .ref 462, .int 0, .int 0, .int 0, .int 0, .int 0, .int 0, .int 0, .ref 464, .ref 466, .int 0, .int 0, .ref 468, .ref 470, .ref 472, .ref 474, .ref 476, .ref 478, .int 0, .int 0, .int 0, .int 0, .int 0, .ref 480, .ref 482, .int (-1), .ref 484, .ref 486, .ref 488, .ref 490, .ref 492, .ref 494, .ref 496, .int 0, .int 0, .ref 498, .ref 500, .ref 502, .ref 504, .int 0, .ref 506, .ref 508, .int 0, .int 0, .int 0, .int 0, .ref 510, .ref 512, .ref 514, .ref 516, .ref 518, .ref 520, .ref 522, .ref 524, .ref 526, .int 0]))) (h1 : G[226]? = some (.inl (1, 2000, .inl L))) : m_F G t L = G := by
  unfold m_F
  rw [q_setE_same h0, q_setE_same h1]
def h_L (t : Nat) (w : Int32) (L : List (Nat × Int32)) : List (Nat × Int32) := (t + 7, w.toInt8.toInt32.toInt8.toInt32) :: (t + 6, (w >>> (8 &&& 31)).toInt8.toInt32.toInt8.toInt32) :: (t + 5, (w >>> (16 &&& 31)).toInt8.toInt32.toInt8.toInt32) :: (t + 4, (w >>> (24 &&& 31)).toInt8.toInt32.toInt8.toInt32) :: L
theorem h_put0 {G : q_H} (hG : 264 ≤ G.length) (w : Int32) (L : List (Nat × Int32)) (d : Nat) : q_callf 4000 (d + 1) 17 [.ref 0, .int w] (h_F G 0 L) = some (none, h_F G 4 (h_L 0 w L), 0, 0) := by
  refine q_cg rfl ?_
  refine q_sg x_17_0 rfl rfl (pc1 := 1) (lv1 := [(0, .ref 0), (1, .int w)]) (st1 := [.int 4]) rfl ?_
  refine q_sg x_17_1 rfl rfl (pc1 := 2) (lv1 := [(0, .ref 0), (1, .int w)]) (st1 := [.ref 0, .int 4]) rfl ?_
  refine q_s_get x_17_2 rfl (pc1 := 5) rfl (ci := 11) (k := 12) (ns := 0) (by decide +kernel) (q_ob (h_F0 hG 0 L) rfl) (v := .int 0) rfl ?_
  refine q_sg x_17_5 rfl rfl (pc1 := 6) (lv1 := [(0, .ref 0), (1, .int w)]) (st1 := [.int 4]) rfl ?_
  refine q_sg x_17_6 rfl rfl (pc1 := 7) (lv1 := [(2, .int 4), (0, .ref 0), (1, .int w)]) (st1 := []) rfl ?_
  refine q_sg x_17_7 rfl rfl (pc1 := 8) (lv1 := [(2, .int 4), (0, .ref 0), (1, .int w)]) (st1 := [.ref 0]) rfl ?_
  refine q_s_get x_17_8 rfl (pc1 := 11) rfl (ci := 11) (k := 0) (ns := 0) (by decide +kernel) (q_ob (h_F0 hG 0 L) rfl) (v := .ref 4) rfl ?_
  refine q_sg x_17_11 rfl rfl (pc1 := 12) (lv1 := [(2, .int 4), (0, .ref 0), (1, .int w)]) (st1 := [.int 4, .ref 4]) rfl ?_
  refine q_sg x_17_12 rfl rfl (pc1 := 13) (lv1 := [(2, .int 4), (0, .ref 0), (1, .int w)]) (st1 := [.int w, .int 4, .ref 4]) rfl ?_
  refine q_sg x_17_13 rfl rfl (pc1 := 15) (lv1 := [(2, .int 4), (0, .ref 0), (1, .int w)]) (st1 := [.int 24, .int w, .int 4, .ref 4]) rfl ?_
  refine q_sg x_17_15 rfl rfl (pc1 := 16) (lv1 := [(2, .int 4), (0, .ref 0), (1, .int w)]) (st1 := [.int (w >>> (24 &&& 31)), .int 4, .ref 4]) rfl ?_
  refine q_sg x_17_16 rfl rfl (pc1 := 17) (lv1 := [(2, .int 4), (0, .ref 0), (1, .int w)]) (st1 := [.int ((w >>> (24 &&& 31)).toInt8.toInt32), .int 4, .ref 4]) rfl ?_
  refine q_s_bas x_17_17 (pc1 := 18) rfl (q_ar (h_F1 hG 0 L) rfl) (by decide +kernel) (j := 4) rfl (h_Fa _ _ ((4, ((w >>> (24 &&& 31)).toInt8.toInt32).toInt8.toInt32) :: L)) ?_
  refine q_sg x_17_18 rfl rfl (pc1 := 19) (lv1 := [(2, .int 4), (0, .ref 0), (1, .int w)]) (st1 := [.ref 0]) rfl ?_
  refine q_s_get x_17_19 rfl (pc1 := 22) rfl (ci := 11) (k := 0) (ns := 0) (by decide +kernel) (q_ob (h_F0 hG 0 ((4, ((w >>> (24 &&& 31)).toInt8.toInt32).toInt8.toInt32) :: L)) rfl) (v := .ref 4) rfl ?_
  refine q_sg x_17_22 rfl rfl (pc1 := 23) (lv1 := [(2, .int 4), (0, .ref 0), (1, .int w)]) (st1 := [.int 4, .ref 4]) rfl ?_
  refine q_sg x_17_23 rfl rfl (pc1 := 24) (lv1 := [(2, .int 4), (0, .ref 0), (1, .int w)]) (st1 := [.int 1, .int 4, .ref 4]) rfl ?_
  refine q_sg x_17_24 rfl rfl (pc1 := 25) (lv1 := [(2, .int 4), (0, .ref 0), (1, .int w)]) (st1 := [.int 5, .ref 4]) rfl ?_
  refine q_sg x_17_25 rfl rfl (pc1 := 26) (lv1 := [(2, .int 4), (0, .ref 0), (1, .int w)]) (st1 := [.int w, .int 5, .ref 4]) rfl ?_
  refine q_sg x_17_26 rfl rfl (pc1 := 28) (lv1 := [(2, .int 4), (0, .ref 0), (1, .int w)]) (st1 := [.int 16, .int w, .int 5, .ref 4]) rfl ?_
  refine q_sg x_17_28 rfl rfl (pc1 := 29) (lv1 := [(2, .int 4), (0, .ref 0), (1, .int w)]) (st1 := [.int (w >>> (16 &&& 31)), .int 5, .ref 4]) rfl ?_
  refine q_sg x_17_29 rfl rfl (pc1 := 30) (lv1 := [(2, .int 4), (0, .ref 0), (1, .int w)]) (st1 := [.int ((w >>> (16 &&& 31)).toInt8.toInt32), .int 5, .ref 4]) rfl ?_
  refine q_s_bas x_17_30 (pc1 := 31) rfl (q_ar (h_F1 hG 0 ((4, ((w >>> (24 &&& 31)).toInt8.toInt32).toInt8.toInt32) :: L)) rfl) (by decide +kernel) (j := 5) rfl (h_Fa _ _ ((5, ((w >>> (16 &&& 31)).toInt8.toInt32).toInt8.toInt32) :: ((4, ((w >>> (24 &&& 31)).toInt8.toInt32).toInt8.toInt32) :: L))) ?_
  refine q_sg x_17_31 rfl rfl (pc1 := 32) (lv1 := [(2, .int 4), (0, .ref 0), (1, .int w)]) (st1 := [.ref 0]) rfl ?_
  refine q_s_get x_17_32 rfl (pc1 := 35) rfl (ci := 11) (k := 0) (ns := 0) (by decide +kernel) (q_ob (h_F0 hG 0 ((5, ((w >>> (16 &&& 31)).toInt8.toInt32).toInt8.toInt32) :: ((4, ((w >>> (24 &&& 31)).toInt8.toInt32).toInt8.toInt32) :: L))) rfl) (v := .ref 4) rfl ?_
  refine q_sg x_17_35 rfl rfl (pc1 := 36) (lv1 := [(2, .int 4), (0, .ref 0), (1, .int w)]) (st1 := [.int 4, .ref 4]) rfl ?_
  refine q_sg x_17_36 rfl rfl (pc1 := 37) (lv1 := [(2, .int 4), (0, .ref 0), (1, .int w)]) (st1 := [.int 2, .int 4, .ref 4]) rfl ?_
  refine q_sg x_17_37 rfl rfl (pc1 := 38) (lv1 := [(2, .int 4), (0, .ref 0), (1, .int w)]) (st1 := [.int 6, .ref 4]) rfl ?_
  refine q_sg x_17_38 rfl rfl (pc1 := 39) (lv1 := [(2, .int 4), (0, .ref 0), (1, .int w)]) (st1 := [.int w, .int 6, .ref 4]) rfl ?_
  refine q_sg x_17_39 rfl rfl (pc1 := 41) (lv1 := [(2, .int 4), (0, .ref 0), (1, .int w)]) (st1 := [.int 8, .int w, .int 6, .ref 4]) rfl ?_
  refine q_sg x_17_41 rfl rfl (pc1 := 42) (lv1 := [(2, .int 4), (0, .ref 0), (1, .int w)]) (st1 := [.int (w >>> (8 &&& 31)), .int 6, .ref 4]) rfl ?_
  refine q_sg x_17_42 rfl rfl (pc1 := 43) (lv1 := [(2, .int 4), (0, .ref 0), (1, .int w)]) (st1 := [.int ((w >>> (8 &&& 31)).toInt8.toInt32), .int 6, .ref 4]) rfl ?_
  refine q_s_bas x_17_43 (pc1 := 44) rfl (q_ar (h_F1 hG 0 ((5, ((w >>> (16 &&& 31)).toInt8.toInt32).toInt8.toInt32) :: ((4, ((w >>> (24 &&& 31)).toInt8.toInt32).toInt8.toInt32) :: L))) rfl) (by decide +kernel) (j := 6) rfl (h_Fa _ _ ((6, ((w >>> (8 &&& 31)).toInt8.toInt32).toInt8.toInt32) :: ((5, ((w >>> (16 &&& 31)).toInt8.toInt32).toInt8.toInt32) :: ((4, ((w >>> (24 &&& 31)).toInt8.toInt32).toInt8.toInt32) :: L)))) ?_
  refine q_sg x_17_44 rfl rfl (pc1 := 45) (lv1 := [(2, .int 4), (0, .ref 0), (1, .int w)]) (st1 := [.ref 0]) rfl ?_
  refine q_s_get x_17_45 rfl (pc1 := 48) rfl (ci := 11) (k := 0) (ns := 0) (by decide +kernel) (q_ob (h_F0 hG 0 ((6, ((w >>> (8 &&& 31)).toInt8.toInt32).toInt8.toInt32) :: ((5, ((w >>> (16 &&& 31)).toInt8.toInt32).toInt8.toInt32) :: ((4, ((w >>> (24 &&& 31)).toInt8.toInt32).toInt8.toInt32) :: L)))) rfl) (v := .ref 4) rfl ?_
  refine q_sg x_17_48 rfl rfl (pc1 := 49) (lv1 := [(2, .int 4), (0, .ref 0), (1, .int w)]) (st1 := [.int 4, .ref 4]) rfl ?_
  refine q_sg x_17_49 rfl rfl (pc1 := 50) (lv1 := [(2, .int 4), (0, .ref 0), (1, .int w)]) (st1 := [.int 3, .int 4, .ref 4]) rfl ?_
  refine q_sg x_17_50 rfl rfl (pc1 := 51) (lv1 := [(2, .int 4), (0, .ref 0), (1, .int w)]) (st1 := [.int 7, .ref 4]) rfl ?_
  refine q_sg x_17_51 rfl rfl (pc1 := 52) (lv1 := [(2, .int 4), (0, .ref 0), (1, .int w)]) (st1 := [.int w, .int 7, .ref 4]) rfl ?_
  refine q_sg x_17_52 rfl rfl (pc1 := 53) (lv1 := [(2, .int 4), (0, .ref 0), (1, .int w)]) (st1 := [.int (w.toInt8.toInt32), .int 7, .ref 4]) rfl ?_
  refine q_s_bas x_17_53 (pc1 := 54) rfl (q_ar (h_F1 hG 0 ((6, ((w >>> (8 &&& 31)).toInt8.toInt32).toInt8.toInt32) :: ((5, ((w >>> (16 &&& 31)).toInt8.toInt32).toInt8.toInt32) :: ((4, ((w >>> (24 &&& 31)).toInt8.toInt32).toInt8.toInt32) :: L)))) rfl) (by decide +kernel) (j := 7) rfl (h_Fa _ _ ((7, (w.toInt8.toInt32).toInt8.toInt32) :: ((6, ((w >>> (8 &&& 31)).toInt8.toInt32).toInt8.toInt32) :: ((5, ((w >>> (16 &&& 31)).toInt8.toInt32).toInt8.toInt32) :: ((4, ((w >>> (24 &&& 31)).toInt8.toInt32).toInt8.toInt32) :: L))))) ?_
  refine q_sg x_17_54 rfl rfl (pc1 := 55) (lv1 := [(2, .int 4), (0, .ref 0), (1, .int w)]) (st1 := [.ref 0]) rfl ?_
  refine q_sg x_17_55 rfl rfl (pc1 := 56) (lv1 := [(2, .int 4), (0, .ref 0), (1, .int w)]) (st1 := [.ref 0, .ref 0]) rfl ?_
  refine q_s_get x_17_56 rfl (pc1 := 59) rfl (ci := 11) (k := 12) (ns := 0) (by decide +kernel) (q_ob (h_F0 hG 0 ((7, (w.toInt8.toInt32).toInt8.toInt32) :: ((6, ((w >>> (8 &&& 31)).toInt8.toInt32).toInt8.toInt32) :: ((5, ((w >>> (16 &&& 31)).toInt8.toInt32).toInt8.toInt32) :: ((4, ((w >>> (24 &&& 31)).toInt8.toInt32).toInt8.toInt32) :: L))))) rfl) (v := .int 0) rfl ?_
  refine q_sg x_17_59 rfl rfl (pc1 := 60) (lv1 := [(2, .int 4), (0, .ref 0), (1, .int w)]) (st1 := [.int 4, .int 0, .ref 0]) rfl ?_
  refine q_sg x_17_60 rfl rfl (pc1 := 61) (lv1 := [(2, .int 4), (0, .ref 0), (1, .int w)]) (st1 := [.int 4, .ref 0]) rfl ?_
  refine q_s_put x_17_61 (pc1 := 64) rfl (ci := 11) (k := 12) (ns := 0) (by decide +kernel) (q_ob (h_F0 hG 0 ((7, (w.toInt8.toInt32).toInt8.toInt32) :: ((6, ((w >>> (8 &&& 31)).toInt8.toInt32).toInt8.toInt32) :: ((5, ((w >>> (16 &&& 31)).toInt8.toInt32).toInt8.toInt32) :: ((4, ((w >>> (24 &&& 31)).toInt8.toInt32).toInt8.toInt32) :: L))))) rfl) (by decide +kernel) (h_Fs _ 4 _) ?_
  exact q_sr x_17_64 rfl
theorem h_put4 {G : q_H} (hG : 264 ≤ G.length) (w : Int32) (L : List (Nat × Int32)) (d : Nat) : q_callf 4000 (d + 1) 17 [.ref 0, .int w] (h_F G 4 L) = some (none, h_F G 8 (h_L 4 w L), 0, 0) := by
  refine q_cg rfl ?_
  refine q_sg x_17_0 rfl rfl (pc1 := 1) (lv1 := [(0, .ref 0), (1, .int w)]) (st1 := [.int 4]) rfl ?_
  refine q_sg x_17_1 rfl rfl (pc1 := 2) (lv1 := [(0, .ref 0), (1, .int w)]) (st1 := [.ref 0, .int 4]) rfl ?_
  refine q_s_get x_17_2 rfl (pc1 := 5) rfl (ci := 11) (k := 12) (ns := 0) (by decide +kernel) (q_ob (h_F0 hG 4 L) rfl) (v := .int 4) rfl ?_
  refine q_sg x_17_5 rfl rfl (pc1 := 6) (lv1 := [(0, .ref 0), (1, .int w)]) (st1 := [.int 8]) rfl ?_
  refine q_sg x_17_6 rfl rfl (pc1 := 7) (lv1 := [(2, .int 8), (0, .ref 0), (1, .int w)]) (st1 := []) rfl ?_
  refine q_sg x_17_7 rfl rfl (pc1 := 8) (lv1 := [(2, .int 8), (0, .ref 0), (1, .int w)]) (st1 := [.ref 0]) rfl ?_
  refine q_s_get x_17_8 rfl (pc1 := 11) rfl (ci := 11) (k := 0) (ns := 0) (by decide +kernel) (q_ob (h_F0 hG 4 L) rfl) (v := .ref 4) rfl ?_
  refine q_sg x_17_11 rfl rfl (pc1 := 12) (lv1 := [(2, .int 8), (0, .ref 0), (1, .int w)]) (st1 := [.int 8, .ref 4]) rfl ?_
  refine q_sg x_17_12 rfl rfl (pc1 := 13) (lv1 := [(2, .int 8), (0, .ref 0), (1, .int w)]) (st1 := [.int w, .int 8, .ref 4]) rfl ?_
  refine q_sg x_17_13 rfl rfl (pc1 := 15) (lv1 := [(2, .int 8), (0, .ref 0), (1, .int w)]) (st1 := [.int 24, .int w, .int 8, .ref 4]) rfl ?_
  refine q_sg x_17_15 rfl rfl (pc1 := 16) (lv1 := [(2, .int 8), (0, .ref 0), (1, .int w)]) (st1 := [.int (w >>> (24 &&& 31)), .int 8, .ref 4]) rfl ?_
  refine q_sg x_17_16 rfl rfl (pc1 := 17) (lv1 := [(2, .int 8), (0, .ref 0), (1, .int w)]) (st1 := [.int ((w >>> (24 &&& 31)).toInt8.toInt32), .int 8, .ref 4]) rfl ?_
  refine q_s_bas x_17_17 (pc1 := 18) rfl (q_ar (h_F1 hG 4 L) rfl) (by decide +kernel) (j := 8) rfl (h_Fa _ _ ((8, ((w >>> (24 &&& 31)).toInt8.toInt32).toInt8.toInt32) :: L)) ?_
  refine q_sg x_17_18 rfl rfl (pc1 := 19) (lv1 := [(2, .int 8), (0, .ref 0), (1, .int w)]) (st1 := [.ref 0]) rfl ?_
  refine q_s_get x_17_19 rfl (pc1 := 22) rfl (ci := 11) (k := 0) (ns := 0) (by decide +kernel) (q_ob (h_F0 hG 4 ((8, ((w >>> (24 &&& 31)).toInt8.toInt32).toInt8.toInt32) :: L)) rfl) (v := .ref 4) rfl ?_
  refine q_sg x_17_22 rfl rfl (pc1 := 23) (lv1 := [(2, .int 8), (0, .ref 0), (1, .int w)]) (st1 := [.int 8, .ref 4]) rfl ?_
  refine q_sg x_17_23 rfl rfl (pc1 := 24) (lv1 := [(2, .int 8), (0, .ref 0), (1, .int w)]) (st1 := [.int 1, .int 8, .ref 4]) rfl ?_
  refine q_sg x_17_24 rfl rfl (pc1 := 25) (lv1 := [(2, .int 8), (0, .ref 0), (1, .int w)]) (st1 := [.int 9, .ref 4]) rfl ?_
  refine q_sg x_17_25 rfl rfl (pc1 := 26) (lv1 := [(2, .int 8), (0, .ref 0), (1, .int w)]) (st1 := [.int w, .int 9, .ref 4]) rfl ?_
  refine q_sg x_17_26 rfl rfl (pc1 := 28) (lv1 := [(2, .int 8), (0, .ref 0), (1, .int w)]) (st1 := [.int 16, .int w, .int 9, .ref 4]) rfl ?_
  refine q_sg x_17_28 rfl rfl (pc1 := 29) (lv1 := [(2, .int 8), (0, .ref 0), (1, .int w)]) (st1 := [.int (w >>> (16 &&& 31)), .int 9, .ref 4]) rfl ?_
  refine q_sg x_17_29 rfl rfl (pc1 := 30) (lv1 := [(2, .int 8), (0, .ref 0), (1, .int w)]) (st1 := [.int ((w >>> (16 &&& 31)).toInt8.toInt32), .int 9, .ref 4]) rfl ?_
  refine q_s_bas x_17_30 (pc1 := 31) rfl (q_ar (h_F1 hG 4 ((8, ((w >>> (24 &&& 31)).toInt8.toInt32).toInt8.toInt32) :: L)) rfl) (by decide +kernel) (j := 9) rfl (h_Fa _ _ ((9, ((w >>> (16 &&& 31)).toInt8.toInt32).toInt8.toInt32) :: ((8, ((w >>> (24 &&& 31)).toInt8.toInt32).toInt8.toInt32) :: L))) ?_
  refine q_sg x_17_31 rfl rfl (pc1 := 32) (lv1 := [(2, .int 8), (0, .ref 0), (1, .int w)]) (st1 := [.ref 0]) rfl ?_
  refine q_s_get x_17_32 rfl (pc1 := 35) rfl (ci := 11) (k := 0) (ns := 0) (by decide +kernel) (q_ob (h_F0 hG 4 ((9, ((w >>> (16 &&& 31)).toInt8.toInt32).toInt8.toInt32) :: ((8, ((w >>> (24 &&& 31)).toInt8.toInt32).toInt8.toInt32) :: L))) rfl) (v := .ref 4) rfl ?_
  refine q_sg x_17_35 rfl rfl (pc1 := 36) (lv1 := [(2, .int 8), (0, .ref 0), (1, .int w)]) (st1 := [.int 8, .ref 4]) rfl ?_
  refine q_sg x_17_36 rfl rfl (pc1 := 37) (lv1 := [(2, .int 8), (0, .ref 0), (1, .int w)]) (st1 := [.int 2, .int 8, .ref 4]) rfl ?_
  refine q_sg x_17_37 rfl rfl (pc1 := 38) (lv1 := [(2, .int 8), (0, .ref 0), (1, .int w)]) (st1 := [.int 10, .ref 4]) rfl ?_
  refine q_sg x_17_38 rfl rfl (pc1 := 39) (lv1 := [(2, .int 8), (0, .ref 0), (1, .int w)]) (st1 := [.int w, .int 10, .ref 4]) rfl ?_
  refine q_sg x_17_39 rfl rfl (pc1 := 41) (lv1 := [(2, .int 8), (0, .ref 0), (1, .int w)]) (st1 := [.int 8, .int w, .int 10, .ref 4]) rfl ?_
  refine q_sg x_17_41 rfl rfl (pc1 := 42) (lv1 := [(2, .int 8), (0, .ref 0), (1, .int w)]) (st1 := [.int (w >>> (8 &&& 31)), .int 10, .ref 4]) rfl ?_
  refine q_sg x_17_42 rfl rfl (pc1 := 43) (lv1 := [(2, .int 8), (0, .ref 0), (1, .int w)]) (st1 := [.int ((w >>> (8 &&& 31)).toInt8.toInt32), .int 10, .ref 4]) rfl ?_
  refine q_s_bas x_17_43 (pc1 := 44) rfl (q_ar (h_F1 hG 4 ((9, ((w >>> (16 &&& 31)).toInt8.toInt32).toInt8.toInt32) :: ((8, ((w >>> (24 &&& 31)).toInt8.toInt32).toInt8.toInt32) :: L))) rfl) (by decide +kernel) (j := 10) rfl (h_Fa _ _ ((10, ((w >>> (8 &&& 31)).toInt8.toInt32).toInt8.toInt32) :: ((9, ((w >>> (16 &&& 31)).toInt8.toInt32).toInt8.toInt32) :: ((8, ((w >>> (24 &&& 31)).toInt8.toInt32).toInt8.toInt32) :: L)))) ?_
  refine q_sg x_17_44 rfl rfl (pc1 := 45) (lv1 := [(2, .int 8), (0, .ref 0), (1, .int w)]) (st1 := [.ref 0]) rfl ?_
  refine q_s_get x_17_45 rfl (pc1 := 48) rfl (ci := 11) (k := 0) (ns := 0) (by decide +kernel) (q_ob (h_F0 hG 4 ((10, ((w >>> (8 &&& 31)).toInt8.toInt32).toInt8.toInt32) :: ((9, ((w >>> (16 &&& 31)).toInt8.toInt32).toInt8.toInt32) :: ((8, ((w >>> (24 &&& 31)).toInt8.toInt32).toInt8.toInt32) :: L)))) rfl) (v := .ref 4) rfl ?_
  refine q_sg x_17_48 rfl rfl (pc1 := 49) (lv1 := [(2, .int 8), (0, .ref 0), (1, .int w)]) (st1 := [.int 8, .ref 4]) rfl ?_
  refine q_sg x_17_49 rfl rfl (pc1 := 50) (lv1 := [(2, .int 8), (0, .ref 0), (1, .int w)]) (st1 := [.int 3, .int 8, .ref 4]) rfl ?_
  refine q_sg x_17_50 rfl rfl (pc1 := 51) (lv1 := [(2, .int 8), (0, .ref 0), (1, .int w)]) (st1 := [.int 11, .ref 4]) rfl ?_
  refine q_sg x_17_51 rfl rfl (pc1 := 52) (lv1 := [(2, .int 8), (0, .ref 0), (1, .int w)]) (st1 := [.int w, .int 11, .ref 4]) rfl ?_
  refine q_sg x_17_52 rfl rfl (pc1 := 53) (lv1 := [(2, .int 8), (0, .ref 0), (1, .int w)]) (st1 := [.int (w.toInt8.toInt32), .int 11, .ref 4]) rfl ?_
  refine q_s_bas x_17_53 (pc1 := 54) rfl (q_ar (h_F1 hG 4 ((10, ((w >>> (8 &&& 31)).toInt8.toInt32).toInt8.toInt32) :: ((9, ((w >>> (16 &&& 31)).toInt8.toInt32).toInt8.toInt32) :: ((8, ((w >>> (24 &&& 31)).toInt8.toInt32).toInt8.toInt32) :: L)))) rfl) (by decide +kernel) (j := 11) rfl (h_Fa _ _ ((11, (w.toInt8.toInt32).toInt8.toInt32) :: ((10, ((w >>> (8 &&& 31)).toInt8.toInt32).toInt8.toInt32) :: ((9, ((w >>> (16 &&& 31)).toInt8.toInt32).toInt8.toInt32) :: ((8, ((w >>> (24 &&& 31)).toInt8.toInt32).toInt8.toInt32) :: L))))) ?_
  refine q_sg x_17_54 rfl rfl (pc1 := 55) (lv1 := [(2, .int 8), (0, .ref 0), (1, .int w)]) (st1 := [.ref 0]) rfl ?_
  refine q_sg x_17_55 rfl rfl (pc1 := 56) (lv1 := [(2, .int 8), (0, .ref 0), (1, .int w)]) (st1 := [.ref 0, .ref 0]) rfl ?_
  refine q_s_get x_17_56 rfl (pc1 := 59) rfl (ci := 11) (k := 12) (ns := 0) (by decide +kernel) (q_ob (h_F0 hG 4 ((11, (w.toInt8.toInt32).toInt8.toInt32) :: ((10, ((w >>> (8 &&& 31)).toInt8.toInt32).toInt8.toInt32) :: ((9, ((w >>> (16 &&& 31)).toInt8.toInt32).toInt8.toInt32) :: ((8, ((w >>> (24 &&& 31)).toInt8.toInt32).toInt8.toInt32) :: L))))) rfl) (v := .int 4) rfl ?_
  refine q_sg x_17_59 rfl rfl (pc1 := 60) (lv1 := [(2, .int 8), (0, .ref 0), (1, .int w)]) (st1 := [.int 4, .int 4, .ref 0]) rfl ?_
  refine q_sg x_17_60 rfl rfl (pc1 := 61) (lv1 := [(2, .int 8), (0, .ref 0), (1, .int w)]) (st1 := [.int 8, .ref 0]) rfl ?_
  refine q_s_put x_17_61 (pc1 := 64) rfl (ci := 11) (k := 12) (ns := 0) (by decide +kernel) (q_ob (h_F0 hG 4 ((11, (w.toInt8.toInt32).toInt8.toInt32) :: ((10, ((w >>> (8 &&& 31)).toInt8.toInt32).toInt8.toInt32) :: ((9, ((w >>> (16 &&& 31)).toInt8.toInt32).toInt8.toInt32) :: ((8, ((w >>> (24 &&& 31)).toInt8.toInt32).toInt8.toInt32) :: L))))) rfl) (by decide +kernel) (h_Fs _ 8 _) ?_
  exact q_sr x_17_64 rfl
theorem h_put8 {G : q_H} (hG : 264 ≤ G.length) (w : Int32) (L : List (Nat × Int32)) (d : Nat) : q_callf 4000 (d + 1) 17 [.ref 0, .int w] (h_F G 8 L) = some (none, h_F G 12 (h_L 8 w L), 0, 0) := by
  refine q_cg rfl ?_
  refine q_sg x_17_0 rfl rfl (pc1 := 1) (lv1 := [(0, .ref 0), (1, .int w)]) (st1 := [.int 4]) rfl ?_
  refine q_sg x_17_1 rfl rfl (pc1 := 2) (lv1 := [(0, .ref 0), (1, .int w)]) (st1 := [.ref 0, .int 4]) rfl ?_
  refine q_s_get x_17_2 rfl (pc1 := 5) rfl (ci := 11) (k := 12) (ns := 0) (by decide +kernel) (q_ob (h_F0 hG 8 L) rfl) (v := .int 8) rfl ?_
  refine q_sg x_17_5 rfl rfl (pc1 := 6) (lv1 := [(0, .ref 0), (1, .int w)]) (st1 := [.int 12]) rfl ?_
  refine q_sg x_17_6 rfl rfl (pc1 := 7) (lv1 := [(2, .int 12), (0, .ref 0), (1, .int w)]) (st1 := []) rfl ?_
  refine q_sg x_17_7 rfl rfl (pc1 := 8) (lv1 := [(2, .int 12), (0, .ref 0), (1, .int w)]) (st1 := [.ref 0]) rfl ?_
  refine q_s_get x_17_8 rfl (pc1 := 11) rfl (ci := 11) (k := 0) (ns := 0) (by decide +kernel) (q_ob (h_F0 hG 8 L) rfl) (v := .ref 4) rfl ?_
  refine q_sg x_17_11 rfl rfl (pc1 := 12) (lv1 := [(2, .int 12), (0, .ref 0), (1, .int w)]) (st1 := [.int 12, .ref 4]) rfl ?_
  refine q_sg x_17_12 rfl rfl (pc1 := 13) (lv1 := [(2, .int 12), (0, .ref 0), (1, .int w)]) (st1 := [.int w, .int 12, .ref 4]) rfl ?_
  refine q_sg x_17_13 rfl rfl (pc1 := 15) (lv1 := [(2, .int 12), (0, .ref 0), (1, .int w)]) (st1 := [.int 24, .int w, .int 12, .ref 4]) rfl ?_
  refine q_sg x_17_15 rfl rfl (pc1 := 16) (lv1 := [(2, .int 12), (0, .ref 0), (1, .int w)]) (st1 := [.int (w >>> (24 &&& 31)), .int 12, .ref 4]) rfl ?_
  refine q_sg x_17_16 rfl rfl (pc1 := 17) (lv1 := [(2, .int 12), (0, .ref 0), (1, .int w)]) (st1 := [.int ((w >>> (24 &&& 31)).toInt8.toInt32), .int 12, .ref 4]) rfl ?_
  refine q_s_bas x_17_17 (pc1 := 18) rfl (q_ar (h_F1 hG 8 L) rfl) (by decide +kernel) (j := 12) rfl (h_Fa _ _ ((12, ((w >>> (24 &&& 31)).toInt8.toInt32).toInt8.toInt32) :: L)) ?_
  refine q_sg x_17_18 rfl rfl (pc1 := 19) (lv1 := [(2, .int 12), (0, .ref 0), (1, .int w)]) (st1 := [.ref 0]) rfl ?_
  refine q_s_get x_17_19 rfl (pc1 := 22) rfl (ci := 11) (k := 0) (ns := 0) (by decide +kernel) (q_ob (h_F0 hG 8 ((12, ((w >>> (24 &&& 31)).toInt8.toInt32).toInt8.toInt32) :: L)) rfl) (v := .ref 4) rfl ?_
  refine q_sg x_17_22 rfl rfl (pc1 := 23) (lv1 := [(2, .int 12), (0, .ref 0), (1, .int w)]) (st1 := [.int 12, .ref 4]) rfl ?_
  refine q_sg x_17_23 rfl rfl (pc1 := 24) (lv1 := [(2, .int 12), (0, .ref 0), (1, .int w)]) (st1 := [.int 1, .int 12, .ref 4]) rfl ?_
  refine q_sg x_17_24 rfl rfl (pc1 := 25) (lv1 := [(2, .int 12), (0, .ref 0), (1, .int w)]) (st1 := [.int 13, .ref 4]) rfl ?_
  refine q_sg x_17_25 rfl rfl (pc1 := 26) (lv1 := [(2, .int 12), (0, .ref 0), (1, .int w)]) (st1 := [.int w, .int 13, .ref 4]) rfl ?_
  refine q_sg x_17_26 rfl rfl (pc1 := 28) (lv1 := [(2, .int 12), (0, .ref 0), (1, .int w)]) (st1 := [.int 16, .int w, .int 13, .ref 4]) rfl ?_
  refine q_sg x_17_28 rfl rfl (pc1 := 29) (lv1 := [(2, .int 12), (0, .ref 0), (1, .int w)]) (st1 := [.int (w >>> (16 &&& 31)), .int 13, .ref 4]) rfl ?_
  refine q_sg x_17_29 rfl rfl (pc1 := 30) (lv1 := [(2, .int 12), (0, .ref 0), (1, .int w)]) (st1 := [.int ((w >>> (16 &&& 31)).toInt8.toInt32), .int 13, .ref 4]) rfl ?_
  refine q_s_bas x_17_30 (pc1 := 31) rfl (q_ar (h_F1 hG 8 ((12, ((w >>> (24 &&& 31)).toInt8.toInt32).toInt8.toInt32) :: L)) rfl) (by decide +kernel) (j := 13) rfl (h_Fa _ _ ((13, ((w >>> (16 &&& 31)).toInt8.toInt32).toInt8.toInt32) :: ((12, ((w >>> (24 &&& 31)).toInt8.toInt32).toInt8.toInt32) :: L))) ?_
  refine q_sg x_17_31 rfl rfl (pc1 := 32) (lv1 := [(2, .int 12), (0, .ref 0), (1, .int w)]) (st1 := [.ref 0]) rfl ?_
  refine q_s_get x_17_32 rfl (pc1 := 35) rfl (ci := 11) (k := 0) (ns := 0) (by decide +kernel) (q_ob (h_F0 hG 8 ((13, ((w >>> (16 &&& 31)).toInt8.toInt32).toInt8.toInt32) :: ((12, ((w >>> (24 &&& 31)).toInt8.toInt32).toInt8.toInt32) :: L))) rfl) (v := .ref 4) rfl ?_
  refine q_sg x_17_35 rfl rfl (pc1 := 36) (lv1 := [(2, .int 12), (0, .ref 0), (1, .int w)]) (st1 := [.int 12, .ref 4]) rfl ?_
  refine q_sg x_17_36 rfl rfl (pc1 := 37) (lv1 := [(2, .int 12), (0, .ref 0), (1, .int w)]) (st1 := [.int 2, .int 12, .ref 4]) rfl ?_
  refine q_sg x_17_37 rfl rfl (pc1 := 38) (lv1 := [(2, .int 12), (0, .ref 0), (1, .int w)]) (st1 := [.int 14, .ref 4]) rfl ?_
  refine q_sg x_17_38 rfl rfl (pc1 := 39) (lv1 := [(2, .int 12), (0, .ref 0), (1, .int w)]) (st1 := [.int w, .int 14, .ref 4]) rfl ?_
  refine q_sg x_17_39 rfl rfl (pc1 := 41) (lv1 := [(2, .int 12), (0, .ref 0), (1, .int w)]) (st1 := [.int 8, .int w, .int 14, .ref 4]) rfl ?_
  refine q_sg x_17_41 rfl rfl (pc1 := 42) (lv1 := [(2, .int 12), (0, .ref 0), (1, .int w)]) (st1 := [.int (w >>> (8 &&& 31)), .int 14, .ref 4]) rfl ?_
  refine q_sg x_17_42 rfl rfl (pc1 := 43) (lv1 := [(2, .int 12), (0, .ref 0), (1, .int w)]) (st1 := [.int ((w >>> (8 &&& 31)).toInt8.toInt32), .int 14, .ref 4]) rfl ?_
  refine q_s_bas x_17_43 (pc1 := 44) rfl (q_ar (h_F1 hG 8 ((13, ((w >>> (16 &&& 31)).toInt8.toInt32).toInt8.toInt32) :: ((12, ((w >>> (24 &&& 31)).toInt8.toInt32).toInt8.toInt32) :: L))) rfl) (by decide +kernel) (j := 14) rfl (h_Fa _ _ ((14, ((w >>> (8 &&& 31)).toInt8.toInt32).toInt8.toInt32) :: ((13, ((w >>> (16 &&& 31)).toInt8.toInt32).toInt8.toInt32) :: ((12, ((w >>> (24 &&& 31)).toInt8.toInt32).toInt8.toInt32) :: L)))) ?_
  refine q_sg x_17_44 rfl rfl (pc1 := 45) (lv1 := [(2, .int 12), (0, .ref 0), (1, .int w)]) (st1 := [.ref 0]) rfl ?_
  refine q_s_get x_17_45 rfl (pc1 := 48) rfl (ci := 11) (k := 0) (ns := 0) (by decide +kernel) (q_ob (h_F0 hG 8 ((14, ((w >>> (8 &&& 31)).toInt8.toInt32).toInt8.toInt32) :: ((13, ((w >>> (16 &&& 31)).toInt8.toInt32).toInt8.toInt32) :: ((12, ((w >>> (24 &&& 31)).toInt8.toInt32).toInt8.toInt32) :: L)))) rfl) (v := .ref 4) rfl ?_
  refine q_sg x_17_48 rfl rfl (pc1 := 49) (lv1 := [(2, .int 12), (0, .ref 0), (1, .int w)]) (st1 := [.int 12, .ref 4]) rfl ?_
  refine q_sg x_17_49 rfl rfl (pc1 := 50) (lv1 := [(2, .int 12), (0, .ref 0), (1, .int w)]) (st1 := [.int 3, .int 12, .ref 4]) rfl ?_
  refine q_sg x_17_50 rfl rfl (pc1 := 51) (lv1 := [(2, .int 12), (0, .ref 0), (1, .int w)]) (st1 := [.int 15, .ref 4]) rfl ?_
  refine q_sg x_17_51 rfl rfl (pc1 := 52) (lv1 := [(2, .int 12), (0, .ref 0), (1, .int w)]) (st1 := [.int w, .int 15, .ref 4]) rfl ?_
  refine q_sg x_17_52 rfl rfl (pc1 := 53) (lv1 := [(2, .int 12), (0, .ref 0), (1, .int w)]) (st1 := [.int (w.toInt8.toInt32), .int 15, .ref 4]) rfl ?_
  refine q_s_bas x_17_53 (pc1 := 54) rfl (q_ar (h_F1 hG 8 ((14, ((w >>> (8 &&& 31)).toInt8.toInt32).toInt8.toInt32) :: ((13, ((w >>> (16 &&& 31)).toInt8.toInt32).toInt8.toInt32) :: ((12, ((w >>> (24 &&& 31)).toInt8.toInt32).toInt8.toInt32) :: L)))) rfl) (by decide +kernel) (j := 15) rfl (h_Fa _ _ ((15, (w.toInt8.toInt32).toInt8.toInt32) :: ((14, ((w >>> (8 &&& 31)).toInt8.toInt32).toInt8.toInt32) :: ((13, ((w >>> (16 &&& 31)).toInt8.toInt32).toInt8.toInt32) :: ((12, ((w >>> (24 &&& 31)).toInt8.toInt32).toInt8.toInt32) :: L))))) ?_
  refine q_sg x_17_54 rfl rfl (pc1 := 55) (lv1 := [(2, .int 12), (0, .ref 0), (1, .int w)]) (st1 := [.ref 0]) rfl ?_
  refine q_sg x_17_55 rfl rfl (pc1 := 56) (lv1 := [(2, .int 12), (0, .ref 0), (1, .int w)]) (st1 := [.ref 0, .ref 0]) rfl ?_
  refine q_s_get x_17_56 rfl (pc1 := 59) rfl (ci := 11) (k := 12) (ns := 0) (by decide +kernel) (q_ob (h_F0 hG 8 ((15, (w.toInt8.toInt32).toInt8.toInt32) :: ((14, ((w >>> (8 &&& 31)).toInt8.toInt32).toInt8.toInt32) :: ((13, ((w >>> (16 &&& 31)).toInt8.toInt32).toInt8.toInt32) :: ((12, ((w >>> (24 &&& 31)).toInt8.toInt32).toInt8.toInt32) :: L))))) rfl) (v := .int 8) rfl ?_
  refine q_sg x_17_59 rfl rfl (pc1 := 60) (lv1 := [(2, .int 12), (0, .ref 0), (1, .int w)]) (st1 := [.int 4, .int 8, .ref 0]) rfl ?_
  refine q_sg x_17_60 rfl rfl (pc1 := 61) (lv1 := [(2, .int 12), (0, .ref 0), (1, .int w)]) (st1 := [.int 12, .ref 0]) rfl ?_
  refine q_s_put x_17_61 (pc1 := 64) rfl (ci := 11) (k := 12) (ns := 0) (by decide +kernel) (q_ob (h_F0 hG 8 ((15, (w.toInt8.toInt32).toInt8.toInt32) :: ((14, ((w >>> (8 &&& 31)).toInt8.toInt32).toInt8.toInt32) :: ((13, ((w >>> (16 &&& 31)).toInt8.toInt32).toInt8.toInt32) :: ((12, ((w >>> (24 &&& 31)).toInt8.toInt32).toInt8.toInt32) :: L))))) rfl) (by decide +kernel) (h_Fs _ 12 _) ?_
  exact q_sr x_17_64 rfl
theorem h_put12 {G : q_H} (hG : 264 ≤ G.length) (w : Int32) (L : List (Nat × Int32)) (d : Nat) : q_callf 4000 (d + 1) 17 [.ref 0, .int w] (h_F G 12 L) = some (none, h_F G 16 (h_L 12 w L), 0, 0) := by
  refine q_cg rfl ?_
  refine q_sg x_17_0 rfl rfl (pc1 := 1) (lv1 := [(0, .ref 0), (1, .int w)]) (st1 := [.int 4]) rfl ?_
  refine q_sg x_17_1 rfl rfl (pc1 := 2) (lv1 := [(0, .ref 0), (1, .int w)]) (st1 := [.ref 0, .int 4]) rfl ?_
  refine q_s_get x_17_2 rfl (pc1 := 5) rfl (ci := 11) (k := 12) (ns := 0) (by decide +kernel) (q_ob (h_F0 hG 12 L) rfl) (v := .int 12) rfl ?_
  refine q_sg x_17_5 rfl rfl (pc1 := 6) (lv1 := [(0, .ref 0), (1, .int w)]) (st1 := [.int 16]) rfl ?_
  refine q_sg x_17_6 rfl rfl (pc1 := 7) (lv1 := [(2, .int 16), (0, .ref 0), (1, .int w)]) (st1 := []) rfl ?_
  refine q_sg x_17_7 rfl rfl (pc1 := 8) (lv1 := [(2, .int 16), (0, .ref 0), (1, .int w)]) (st1 := [.ref 0]) rfl ?_
  refine q_s_get x_17_8 rfl (pc1 := 11) rfl (ci := 11) (k := 0) (ns := 0) (by decide +kernel) (q_ob (h_F0 hG 12 L) rfl) (v := .ref 4) rfl ?_
  refine q_sg x_17_11 rfl rfl (pc1 := 12) (lv1 := [(2, .int 16), (0, .ref 0), (1, .int w)]) (st1 := [.int 16, .ref 4]) rfl ?_
  refine q_sg x_17_12 rfl rfl (pc1 := 13) (lv1 := [(2, .int 16), (0, .ref 0), (1, .int w)]) (st1 := [.int w, .int 16, .ref 4]) rfl ?_
  refine q_sg x_17_13 rfl rfl (pc1 := 15) (lv1 := [(2, .int 16), (0, .ref 0), (1, .int w)]) (st1 := [.int 24, .int w, .int 16, .ref 4]) rfl ?_
  refine q_sg x_17_15 rfl rfl (pc1 := 16) (lv1 := [(2, .int 16), (0, .ref 0), (1, .int w)]) (st1 := [.int (w >>> (24 &&& 31)), .int 16, .ref 4]) rfl ?_
  refine q_sg x_17_16 rfl rfl (pc1 := 17) (lv1 := [(2, .int 16), (0, .ref 0), (1, .int w)]) (st1 := [.int ((w >>> (24 &&& 31)).toInt8.toInt32), .int 16, .ref 4]) rfl ?_
  refine q_s_bas x_17_17 (pc1 := 18) rfl (q_ar (h_F1 hG 12 L) rfl) (by decide +kernel) (j := 16) rfl (h_Fa _ _ ((16, ((w >>> (24 &&& 31)).toInt8.toInt32).toInt8.toInt32) :: L)) ?_
  refine q_sg x_17_18 rfl rfl (pc1 := 19) (lv1 := [(2, .int 16), (0, .ref 0), (1, .int w)]) (st1 := [.ref 0]) rfl ?_
  refine q_s_get x_17_19 rfl (pc1 := 22) rfl (ci := 11) (k := 0) (ns := 0) (by decide +kernel) (q_ob (h_F0 hG 12 ((16, ((w >>> (24 &&& 31)).toInt8.toInt32).toInt8.toInt32) :: L)) rfl) (v := .ref 4) rfl ?_
  refine q_sg x_17_22 rfl rfl (pc1 := 23) (lv1 := [(2, .int 16), (0, .ref 0), (1, .int w)]) (st1 := [.int 16, .ref 4]) rfl ?_
  refine q_sg x_17_23 rfl rfl (pc1 := 24) (lv1 := [(2, .int 16), (0, .ref 0), (1, .int w)]) (st1 := [.int 1, .int 16, .ref 4]) rfl ?_
  refine q_sg x_17_24 rfl rfl (pc1 := 25) (lv1 := [(2, .int 16), (0, .ref 0), (1, .int w)]) (st1 := [.int 17, .ref 4]) rfl ?_
  refine q_sg x_17_25 rfl rfl (pc1 := 26) (lv1 := [(2, .int 16), (0, .ref 0), (1, .int w)]) (st1 := [.int w, .int 17, .ref 4]) rfl ?_
  refine q_sg x_17_26 rfl rfl (pc1 := 28) (lv1 := [(2, .int 16), (0, .ref 0), (1, .int w)]) (st1 := [.int 16, .int w, .int 17, .ref 4]) rfl ?_
  refine q_sg x_17_28 rfl rfl (pc1 := 29) (lv1 := [(2, .int 16), (0, .ref 0), (1, .int w)]) (st1 := [.int (w >>> (16 &&& 31)), .int 17, .ref 4]) rfl ?_
  refine q_sg x_17_29 rfl rfl (pc1 := 30) (lv1 := [(2, .int 16), (0, .ref 0), (1, .int w)]) (st1 := [.int ((w >>> (16 &&& 31)).toInt8.toInt32), .int 17, .ref 4]) rfl ?_
  refine q_s_bas x_17_30 (pc1 := 31) rfl (q_ar (h_F1 hG 12 ((16, ((w >>> (24 &&& 31)).toInt8.toInt32).toInt8.toInt32) :: L)) rfl) (by decide +kernel) (j := 17) rfl (h_Fa _ _ ((17, ((w >>> (16 &&& 31)).toInt8.toInt32).toInt8.toInt32) :: ((16, ((w >>> (24 &&& 31)).toInt8.toInt32).toInt8.toInt32) :: L))) ?_
  refine q_sg x_17_31 rfl rfl (pc1 := 32) (lv1 := [(2, .int 16), (0, .ref 0), (1, .int w)]) (st1 := [.ref 0]) rfl ?_
  refine q_s_get x_17_32 rfl (pc1 := 35) rfl (ci := 11) (k := 0) (ns := 0) (by decide +kernel) (q_ob (h_F0 hG 12 ((17, ((w >>> (16 &&& 31)).toInt8.toInt32).toInt8.toInt32) :: ((16, ((w >>> (24 &&& 31)).toInt8.toInt32).toInt8.toInt32) :: L))) rfl) (v := .ref 4) rfl ?_
  refine q_sg x_17_35 rfl rfl (pc1 := 36) (lv1 := [(2, .int 16), (0, .ref 0), (1, .int w)]) (st1 := [.int 16, .ref 4]) rfl ?_
  refine q_sg x_17_36 rfl rfl (pc1 := 37) (lv1 := [(2, .int 16), (0, .ref 0), (1, .int w)]) (st1 := [.int 2, .int 16, .ref 4]) rfl ?_
  refine q_sg x_17_37 rfl rfl (pc1 := 38) (lv1 := [(2, .int 16), (0, .ref 0), (1, .int w)]) (st1 := [.int 18, .ref 4]) rfl ?_
  refine q_sg x_17_38 rfl rfl (pc1 := 39) (lv1 := [(2, .int 16), (0, .ref 0), (1, .int w)]) (st1 := [.int w, .int 18, .ref 4]) rfl ?_
  refine q_sg x_17_39 rfl rfl (pc1 := 41) (lv1 := [(2, .int 16), (0, .ref 0), (1, .int w)]) (st1 := [.int 8, .int w, .int 18, .ref 4]) rfl ?_
  refine q_sg x_17_41 rfl rfl (pc1 := 42) (lv1 := [(2, .int 16), (0, .ref 0), (1, .int w)]) (st1 := [.int (w >>> (8 &&& 31)), .int 18, .ref 4]) rfl ?_
  refine q_sg x_17_42 rfl rfl (pc1 := 43) (lv1 := [(2, .int 16), (0, .ref 0), (1, .int w)]) (st1 := [.int ((w >>> (8 &&& 31)).toInt8.toInt32), .int 18, .ref 4]) rfl ?_
  refine q_s_bas x_17_43 (pc1 := 44) rfl (q_ar (h_F1 hG 12 ((17, ((w >>> (16 &&& 31)).toInt8.toInt32).toInt8.toInt32) :: ((16, ((w >>> (24 &&& 31)).toInt8.toInt32).toInt8.toInt32) :: L))) rfl) (by decide +kernel) (j := 18) rfl (h_Fa _ _ ((18, ((w >>> (8 &&& 31)).toInt8.toInt32).toInt8.toInt32) :: ((17, ((w >>> (16 &&& 31)).toInt8.toInt32).toInt8.toInt32) :: ((16, ((w >>> (24 &&& 31)).toInt8.toInt32).toInt8.toInt32) :: L)))) ?_
  refine q_sg x_17_44 rfl rfl (pc1 := 45) (lv1 := [(2, .int 16), (0, .ref 0), (1, .int w)]) (st1 := [.ref 0]) rfl ?_
  refine q_s_get x_17_45 rfl (pc1 := 48) rfl (ci := 11) (k := 0) (ns := 0) (by decide +kernel) (q_ob (h_F0 hG 12 ((18, ((w >>> (8 &&& 31)).toInt8.toInt32).toInt8.toInt32) :: ((17, ((w >>> (16 &&& 31)).toInt8.toInt32).toInt8.toInt32) :: ((16, ((w >>> (24 &&& 31)).toInt8.toInt32).toInt8.toInt32) :: L)))) rfl) (v := .ref 4) rfl ?_
  refine q_sg x_17_48 rfl rfl (pc1 := 49) (lv1 := [(2, .int 16), (0, .ref 0), (1, .int w)]) (st1 := [.int 16, .ref 4]) rfl ?_
  refine q_sg x_17_49 rfl rfl (pc1 := 50) (lv1 := [(2, .int 16), (0, .ref 0), (1, .int w)]) (st1 := [.int 3, .int 16, .ref 4]) rfl ?_
  refine q_sg x_17_50 rfl rfl (pc1 := 51) (lv1 := [(2, .int 16), (0, .ref 0), (1, .int w)]) (st1 := [.int 19, .ref 4]) rfl ?_
  refine q_sg x_17_51 rfl rfl (pc1 := 52) (lv1 := [(2, .int 16), (0, .ref 0), (1, .int w)]) (st1 := [.int w, .int 19, .ref 4]) rfl ?_
  refine q_sg x_17_52 rfl rfl (pc1 := 53) (lv1 := [(2, .int 16), (0, .ref 0), (1, .int w)]) (st1 := [.int (w.toInt8.toInt32), .int 19, .ref 4]) rfl ?_
  refine q_s_bas x_17_53 (pc1 := 54) rfl (q_ar (h_F1 hG 12 ((18, ((w >>> (8 &&& 31)).toInt8.toInt32).toInt8.toInt32) :: ((17, ((w >>> (16 &&& 31)).toInt8.toInt32).toInt8.toInt32) :: ((16, ((w >>> (24 &&& 31)).toInt8.toInt32).toInt8.toInt32) :: L)))) rfl) (by decide +kernel) (j := 19) rfl (h_Fa _ _ ((19, (w.toInt8.toInt32).toInt8.toInt32) :: ((18, ((w >>> (8 &&& 31)).toInt8.toInt32).toInt8.toInt32) :: ((17, ((w >>> (16 &&& 31)).toInt8.toInt32).toInt8.toInt32) :: ((16, ((w >>> (24 &&& 31)).toInt8.toInt32).toInt8.toInt32) :: L))))) ?_
  refine q_sg x_17_54 rfl rfl (pc1 := 55) (lv1 := [(2, .int 16), (0, .ref 0), (1, .int w)]) (st1 := [.ref 0]) rfl ?_
  refine q_sg x_17_55 rfl rfl (pc1 := 56) (lv1 := [(2, .int 16), (0, .ref 0), (1, .int w)]) (st1 := [.ref 0, .ref 0]) rfl ?_
  refine q_s_get x_17_56 rfl (pc1 := 59) rfl (ci := 11) (k := 12) (ns := 0) (by decide +kernel) (q_ob (h_F0 hG 12 ((19, (w.toInt8.toInt32).toInt8.toInt32) :: ((18, ((w >>> (8 &&& 31)).toInt8.toInt32).toInt8.toInt32) :: ((17, ((w >>> (16 &&& 31)).toInt8.toInt32).toInt8.toInt32) :: ((16, ((w >>> (24 &&& 31)).toInt8.toInt32).toInt8.toInt32) :: L))))) rfl) (v := .int 12) rfl ?_
  refine q_sg x_17_59 rfl rfl (pc1 := 60) (lv1 := [(2, .int 16), (0, .ref 0), (1, .int w)]) (st1 := [.int 4, .int 12, .ref 0]) rfl ?_
  refine q_sg x_17_60 rfl rfl (pc1 := 61) (lv1 := [(2, .int 16), (0, .ref 0), (1, .int w)]) (st1 := [.int 16, .ref 0]) rfl ?_
  refine q_s_put x_17_61 (pc1 := 64) rfl (ci := 11) (k := 12) (ns := 0) (by decide +kernel) (q_ob (h_F0 hG 12 ((19, (w.toInt8.toInt32).toInt8.toInt32) :: ((18, ((w >>> (8 &&& 31)).toInt8.toInt32).toInt8.toInt32) :: ((17, ((w >>> (16 &&& 31)).toInt8.toInt32).toInt8.toInt32) :: ((16, ((w >>> (24 &&& 31)).toInt8.toInt32).toInt8.toInt32) :: L))))) rfl) (by decide +kernel) (h_Fs _ 16 _) ?_
  exact q_sr x_17_64 rfl
theorem h_put16 {G : q_H} (hG : 264 ≤ G.length) (w : Int32) (L : List (Nat × Int32)) (d : Nat) : q_callf 4000 (d + 1) 17 [.ref 0, .int w] (h_F G 16 L) = some (none, h_F G 20 (h_L 16 w L), 0, 0) := by
  refine q_cg rfl ?_
  refine q_sg x_17_0 rfl rfl (pc1 := 1) (lv1 := [(0, .ref 0), (1, .int w)]) (st1 := [.int 4]) rfl ?_
  refine q_sg x_17_1 rfl rfl (pc1 := 2) (lv1 := [(0, .ref 0), (1, .int w)]) (st1 := [.ref 0, .int 4]) rfl ?_
  refine q_s_get x_17_2 rfl (pc1 := 5) rfl (ci := 11) (k := 12) (ns := 0) (by decide +kernel) (q_ob (h_F0 hG 16 L) rfl) (v := .int 16) rfl ?_
  refine q_sg x_17_5 rfl rfl (pc1 := 6) (lv1 := [(0, .ref 0), (1, .int w)]) (st1 := [.int 20]) rfl ?_
  refine q_sg x_17_6 rfl rfl (pc1 := 7) (lv1 := [(2, .int 20), (0, .ref 0), (1, .int w)]) (st1 := []) rfl ?_
  refine q_sg x_17_7 rfl rfl (pc1 := 8) (lv1 := [(2, .int 20), (0, .ref 0), (1, .int w)]) (st1 := [.ref 0]) rfl ?_
  refine q_s_get x_17_8 rfl (pc1 := 11) rfl (ci := 11) (k := 0) (ns := 0) (by decide +kernel) (q_ob (h_F0 hG 16 L) rfl) (v := .ref 4) rfl ?_
  refine q_sg x_17_11 rfl rfl (pc1 := 12) (lv1 := [(2, .int 20), (0, .ref 0), (1, .int w)]) (st1 := [.int 20, .ref 4]) rfl ?_
  refine q_sg x_17_12 rfl rfl (pc1 := 13) (lv1 := [(2, .int 20), (0, .ref 0), (1, .int w)]) (st1 := [.int w, .int 20, .ref 4]) rfl ?_
  refine q_sg x_17_13 rfl rfl (pc1 := 15) (lv1 := [(2, .int 20), (0, .ref 0), (1, .int w)]) (st1 := [.int 24, .int w, .int 20, .ref 4]) rfl ?_
  refine q_sg x_17_15 rfl rfl (pc1 := 16) (lv1 := [(2, .int 20), (0, .ref 0), (1, .int w)]) (st1 := [.int (w >>> (24 &&& 31)), .int 20, .ref 4]) rfl ?_
  refine q_sg x_17_16 rfl rfl (pc1 := 17) (lv1 := [(2, .int 20), (0, .ref 0), (1, .int w)]) (st1 := [.int ((w >>> (24 &&& 31)).toInt8.toInt32), .int 20, .ref 4]) rfl ?_
  refine q_s_bas x_17_17 (pc1 := 18) rfl (q_ar (h_F1 hG 16 L) rfl) (by decide +kernel) (j := 20) rfl (h_Fa _ _ ((20, ((w >>> (24 &&& 31)).toInt8.toInt32).toInt8.toInt32) :: L)) ?_
  refine q_sg x_17_18 rfl rfl (pc1 := 19) (lv1 := [(2, .int 20), (0, .ref 0), (1, .int w)]) (st1 := [.ref 0]) rfl ?_
  refine q_s_get x_17_19 rfl (pc1 := 22) rfl (ci := 11) (k := 0) (ns := 0) (by decide +kernel) (q_ob (h_F0 hG 16 ((20, ((w >>> (24 &&& 31)).toInt8.toInt32).toInt8.toInt32) :: L)) rfl) (v := .ref 4) rfl ?_
  refine q_sg x_17_22 rfl rfl (pc1 := 23) (lv1 := [(2, .int 20), (0, .ref 0), (1, .int w)]) (st1 := [.int 20, .ref 4]) rfl ?_
  refine q_sg x_17_23 rfl rfl (pc1 := 24) (lv1 := [(2, .int 20), (0, .ref 0), (1, .int w)]) (st1 := [.int 1, .int 20, .ref 4]) rfl ?_
  refine q_sg x_17_24 rfl rfl (pc1 := 25) (lv1 := [(2, .int 20), (0, .ref 0), (1, .int w)]) (st1 := [.int 21, .ref 4]) rfl ?_
  refine q_sg x_17_25 rfl rfl (pc1 := 26) (lv1 := [(2, .int 20), (0, .ref 0), (1, .int w)]) (st1 := [.int w, .int 21, .ref 4]) rfl ?_
  refine q_sg x_17_26 rfl rfl (pc1 := 28) (lv1 := [(2, .int 20), (0, .ref 0), (1, .int w)]) (st1 := [.int 16, .int w, .int 21, .ref 4]) rfl ?_
  refine q_sg x_17_28 rfl rfl (pc1 := 29) (lv1 := [(2, .int 20), (0, .ref 0), (1, .int w)]) (st1 := [.int (w >>> (16 &&& 31)), .int 21, .ref 4]) rfl ?_
  refine q_sg x_17_29 rfl rfl (pc1 := 30) (lv1 := [(2, .int 20), (0, .ref 0), (1, .int w)]) (st1 := [.int ((w >>> (16 &&& 31)).toInt8.toInt32), .int 21, .ref 4]) rfl ?_
  refine q_s_bas x_17_30 (pc1 := 31) rfl (q_ar (h_F1 hG 16 ((20, ((w >>> (24 &&& 31)).toInt8.toInt32).toInt8.toInt32) :: L)) rfl) (by decide +kernel) (j := 21) rfl (h_Fa _ _ ((21, ((w >>> (16 &&& 31)).toInt8.toInt32).toInt8.toInt32) :: ((20, ((w >>> (24 &&& 31)).toInt8.toInt32).toInt8.toInt32) :: L))) ?_
  refine q_sg x_17_31 rfl rfl (pc1 := 32) (lv1 := [(2, .int 20), (0, .ref 0), (1, .int w)]) (st1 := [.ref 0]) rfl ?_
  refine q_s_get x_17_32 rfl (pc1 := 35) rfl (ci := 11) (k := 0) (ns := 0) (by decide +kernel) (q_ob (h_F0 hG 16 ((21, ((w >>> (16 &&& 31)).toInt8.toInt32).toInt8.toInt32) :: ((20, ((w >>> (24 &&& 31)).toInt8.toInt32).toInt8.toInt32) :: L))) rfl) (v := .ref 4) rfl ?_
  refine q_sg x_17_35 rfl rfl (pc1 := 36) (lv1 := [(2, .int 20), (0, .ref 0), (1, .int w)]) (st1 := [.int 20, .ref 4]) rfl ?_
  refine q_sg x_17_36 rfl rfl (pc1 := 37) (lv1 := [(2, .int 20), (0, .ref 0), (1, .int w)]) (st1 := [.int 2, .int 20, .ref 4]) rfl ?_
  refine q_sg x_17_37 rfl rfl (pc1 := 38) (lv1 := [(2, .int 20), (0, .ref 0), (1, .int w)]) (st1 := [.int 22, .ref 4]) rfl ?_
  refine q_sg x_17_38 rfl rfl (pc1 := 39) (lv1 := [(2, .int 20), (0, .ref 0), (1, .int w)]) (st1 := [.int w, .int 22, .ref 4]) rfl ?_
  refine q_sg x_17_39 rfl rfl (pc1 := 41) (lv1 := [(2, .int 20), (0, .ref 0), (1, .int w)]) (st1 := [.int 8, .int w, .int 22, .ref 4]) rfl ?_
  refine q_sg x_17_41 rfl rfl (pc1 := 42) (lv1 := [(2, .int 20), (0, .ref 0), (1, .int w)]) (st1 := [.int (w >>> (8 &&& 31)), .int 22, .ref 4]) rfl ?_
  refine q_sg x_17_42 rfl rfl (pc1 := 43) (lv1 := [(2, .int 20), (0, .ref 0), (1, .int w)]) (st1 := [.int ((w >>> (8 &&& 31)).toInt8.toInt32), .int 22, .ref 4]) rfl ?_
  refine q_s_bas x_17_43 (pc1 := 44) rfl (q_ar (h_F1 hG 16 ((21, ((w >>> (16 &&& 31)).toInt8.toInt32).toInt8.toInt32) :: ((20, ((w >>> (24 &&& 31)).toInt8.toInt32).toInt8.toInt32) :: L))) rfl) (by decide +kernel) (j := 22) rfl (h_Fa _ _ ((22, ((w >>> (8 &&& 31)).toInt8.toInt32).toInt8.toInt32) :: ((21, ((w >>> (16 &&& 31)).toInt8.toInt32).toInt8.toInt32) :: ((20, ((w >>> (24 &&& 31)).toInt8.toInt32).toInt8.toInt32) :: L)))) ?_
  refine q_sg x_17_44 rfl rfl (pc1 := 45) (lv1 := [(2, .int 20), (0, .ref 0), (1, .int w)]) (st1 := [.ref 0]) rfl ?_
  refine q_s_get x_17_45 rfl (pc1 := 48) rfl (ci := 11) (k := 0) (ns := 0) (by decide +kernel) (q_ob (h_F0 hG 16 ((22, ((w >>> (8 &&& 31)).toInt8.toInt32).toInt8.toInt32) :: ((21, ((w >>> (16 &&& 31)).toInt8.toInt32).toInt8.toInt32) :: ((20, ((w >>> (24 &&& 31)).toInt8.toInt32).toInt8.toInt32) :: L)))) rfl) (v := .ref 4) rfl ?_
  refine q_sg x_17_48 rfl rfl (pc1 := 49) (lv1 := [(2, .int 20), (0, .ref 0), (1, .int w)]) (st1 := [.int 20, .ref 4]) rfl ?_
  refine q_sg x_17_49 rfl rfl (pc1 := 50) (lv1 := [(2, .int 20), (0, .ref 0), (1, .int w)]) (st1 := [.int 3, .int 20, .ref 4]) rfl ?_
  refine q_sg x_17_50 rfl rfl (pc1 := 51) (lv1 := [(2, .int 20), (0, .ref 0), (1, .int w)]) (st1 := [.int 23, .ref 4]) rfl ?_
  refine q_sg x_17_51 rfl rfl (pc1 := 52) (lv1 := [(2, .int 20), (0, .ref 0), (1, .int w)]) (st1 := [.int w, .int 23, .ref 4]) rfl ?_
  refine q_sg x_17_52 rfl rfl (pc1 := 53) (lv1 := [(2, .int 20), (0, .ref 0), (1, .int w)]) (st1 := [.int (w.toInt8.toInt32), .int 23, .ref 4]) rfl ?_
  refine q_s_bas x_17_53 (pc1 := 54) rfl (q_ar (h_F1 hG 16 ((22, ((w >>> (8 &&& 31)).toInt8.toInt32).toInt8.toInt32) :: ((21, ((w >>> (16 &&& 31)).toInt8.toInt32).toInt8.toInt32) :: ((20, ((w >>> (24 &&& 31)).toInt8.toInt32).toInt8.toInt32) :: L)))) rfl) (by decide +kernel) (j := 23) rfl (h_Fa _ _ ((23, (w.toInt8.toInt32).toInt8.toInt32) :: ((22, ((w >>> (8 &&& 31)).toInt8.toInt32).toInt8.toInt32) :: ((21, ((w >>> (16 &&& 31)).toInt8.toInt32).toInt8.toInt32) :: ((20, ((w >>> (24 &&& 31)).toInt8.toInt32).toInt8.toInt32) :: L))))) ?_
  refine q_sg x_17_54 rfl rfl (pc1 := 55) (lv1 := [(2, .int 20), (0, .ref 0), (1, .int w)]) (st1 := [.ref 0]) rfl ?_
  refine q_sg x_17_55 rfl rfl (pc1 := 56) (lv1 := [(2, .int 20), (0, .ref 0), (1, .int w)]) (st1 := [.ref 0, .ref 0]) rfl ?_
  refine q_s_get x_17_56 rfl (pc1 := 59) rfl (ci := 11) (k := 12) (ns := 0) (by decide +kernel) (q_ob (h_F0 hG 16 ((23, (w.toInt8.toInt32).toInt8.toInt32) :: ((22, ((w >>> (8 &&& 31)).toInt8.toInt32).toInt8.toInt32) :: ((21, ((w >>> (16 &&& 31)).toInt8.toInt32).toInt8.toInt32) :: ((20, ((w >>> (24 &&& 31)).toInt8.toInt32).toInt8.toInt32) :: L))))) rfl) (v := .int 16) rfl ?_
  refine q_sg x_17_59 rfl rfl (pc1 := 60) (lv1 := [(2, .int 20), (0, .ref 0), (1, .int w)]) (st1 := [.int 4, .int 16, .ref 0]) rfl ?_
  refine q_sg x_17_60 rfl rfl (pc1 := 61) (lv1 := [(2, .int 20), (0, .ref 0), (1, .int w)]) (st1 := [.int 20, .ref 0]) rfl ?_
  refine q_s_put x_17_61 (pc1 := 64) rfl (ci := 11) (k := 12) (ns := 0) (by decide +kernel) (q_ob (h_F0 hG 16 ((23, (w.toInt8.toInt32).toInt8.toInt32) :: ((22, ((w >>> (8 &&& 31)).toInt8.toInt32).toInt8.toInt32) :: ((21, ((w >>> (16 &&& 31)).toInt8.toInt32).toInt8.toInt32) :: ((20, ((w >>> (24 &&& 31)).toInt8.toInt32).toInt8.toInt32) :: L))))) rfl) (by decide +kernel) (h_Fs _ 20 _) ?_
  exact q_sr x_17_64 rfl
theorem h_feed {G : q_H} (hG : 264 ≤ G.length) (a b c e f : Int32) (L : List (Nat × Int32)) (d : Nat) : q_callf 4000 (d + 2) 16 [.ref 0, .int a, .int b, .int c, .int e, .int f] (h_F G 0 L) = some (some (.int 20), h_F G 20 (h_L 16 f (h_L 12 e (h_L 8 c (h_L 4 b (h_L 0 a L))))), 0, 0) := by
  refine q_cg rfl ?_
  refine q_sg x_16_0 rfl rfl (pc1 := 1) (lv1 := [(0, .ref 0), (1, .int a), (2, .int b), (3, .int c), (4, .int e), (5, .int f)]) (st1 := [.ref 0]) rfl ?_
  refine q_s_get x_16_1 rfl (pc1 := 4) rfl (ci := 11) (k := 12) (ns := 0) (by decide +kernel) (q_ob (h_F0 hG 0 L) rfl) (v := .int 0) rfl ?_
  refine q_sg x_16_4 rfl rfl (pc1 := 6) (lv1 := [(0, .ref 0), (1, .int a), (2, .int b), (3, .int c), (4, .int e), (5, .int f)]) (st1 := [.int 20, .int 0]) rfl ?_
  refine q_sg x_16_6 rfl rfl (pc1 := 7) (lv1 := [(0, .ref 0), (1, .int a), (2, .int b), (3, .int c), (4, .int e), (5, .int f)]) (st1 := [.int 20]) rfl ?_
  refine q_sg x_16_7 rfl rfl (pc1 := 10) (lv1 := [(0, .ref 0), (1, .int a), (2, .int b), (3, .int c), (4, .int e), (5, .int f)]) (st1 := [.int 2000, .int 20]) rfl ?_
  refine q_sg x_16_10 rfl rfl (pc1 := 15) (lv1 := [(0, .ref 0), (1, .int a), (2, .int b), (3, .int c), (4, .int e), (5, .int f)]) (st1 := []) rfl ?_
  refine q_sg x_16_15 rfl rfl (pc1 := 16) (lv1 := [(0, .ref 0), (1, .int a), (2, .int b), (3, .int c), (4, .int e), (5, .int f)]) (st1 := [.ref 0]) rfl ?_
  refine q_sg x_16_16 rfl rfl (pc1 := 17) (lv1 := [(0, .ref 0), (1, .int a), (2, .int b), (3, .int c), (4, .int e), (5, .int f)]) (st1 := [.int a, .ref 0]) rfl ?_
  refine q_s_inv x_16_17 (y := 17) (z := 0) (by decide +kernel) (pc1 := 20) rfl (as := [.int a]) (r := []) rfl rfl rfl rfl (ci := 11) rfl (by decide) (q_ob (h_F0 hG 0 L) rfl) (Nat.zero_le _) (h_put0 hG a L _) (st1 := []) rfl ?_
  refine q_sg x_16_20 rfl rfl (pc1 := 21) (lv1 := [(0, .ref 0), (1, .int a), (2, .int b), (3, .int c), (4, .int e), (5, .int f)]) (st1 := [.ref 0]) rfl ?_
  refine q_sg x_16_21 rfl rfl (pc1 := 22) (lv1 := [(0, .ref 0), (1, .int a), (2, .int b), (3, .int c), (4, .int e), (5, .int f)]) (st1 := [.int b, .ref 0]) rfl ?_
  refine q_s_inv x_16_22 (y := 17) (z := 0) (by decide +kernel) (pc1 := 25) rfl (as := [.int b]) (r := []) rfl rfl rfl rfl (ci := 11) rfl (by decide) (q_ob (h_F0 hG 4 (h_L 0 a L)) rfl) (Nat.zero_le _) (h_put4 hG b (h_L 0 a L) _) (st1 := []) rfl ?_
  refine q_sg x_16_25 rfl rfl (pc1 := 26) (lv1 := [(0, .ref 0), (1, .int a), (2, .int b), (3, .int c), (4, .int e), (5, .int f)]) (st1 := [.ref 0]) rfl ?_
  refine q_sg x_16_26 rfl rfl (pc1 := 27) (lv1 := [(0, .ref 0), (1, .int a), (2, .int b), (3, .int c), (4, .int e), (5, .int f)]) (st1 := [.int c, .ref 0]) rfl ?_
  refine q_s_inv x_16_27 (y := 17) (z := 0) (by decide +kernel) (pc1 := 30) rfl (as := [.int c]) (r := []) rfl rfl rfl rfl (ci := 11) rfl (by decide) (q_ob (h_F0 hG 8 (h_L 4 b (h_L 0 a L))) rfl) (Nat.zero_le _) (h_put8 hG c (h_L 4 b (h_L 0 a L)) _) (st1 := []) rfl ?_
  refine q_sg x_16_30 rfl rfl (pc1 := 31) (lv1 := [(0, .ref 0), (1, .int a), (2, .int b), (3, .int c), (4, .int e), (5, .int f)]) (st1 := [.ref 0]) rfl ?_
  refine q_sg x_16_31 rfl rfl (pc1 := 33) (lv1 := [(0, .ref 0), (1, .int a), (2, .int b), (3, .int c), (4, .int e), (5, .int f)]) (st1 := [.int e, .ref 0]) rfl ?_
  refine q_s_inv x_16_33 (y := 17) (z := 0) (by decide +kernel) (pc1 := 36) rfl (as := [.int e]) (r := []) rfl rfl rfl rfl (ci := 11) rfl (by decide) (q_ob (h_F0 hG 12 (h_L 8 c (h_L 4 b (h_L 0 a L)))) rfl) (Nat.zero_le _) (h_put12 hG e (h_L 8 c (h_L 4 b (h_L 0 a L))) _) (st1 := []) rfl ?_
  refine q_sg x_16_36 rfl rfl (pc1 := 37) (lv1 := [(0, .ref 0), (1, .int a), (2, .int b), (3, .int c), (4, .int e), (5, .int f)]) (st1 := [.ref 0]) rfl ?_
  refine q_sg x_16_37 rfl rfl (pc1 := 39) (lv1 := [(0, .ref 0), (1, .int a), (2, .int b), (3, .int c), (4, .int e), (5, .int f)]) (st1 := [.int f, .ref 0]) rfl ?_
  refine q_s_inv x_16_39 (y := 17) (z := 0) (by decide +kernel) (pc1 := 42) rfl (as := [.int f]) (r := []) rfl rfl rfl rfl (ci := 11) rfl (by decide) (q_ob (h_F0 hG 16 (h_L 12 e (h_L 8 c (h_L 4 b (h_L 0 a L))))) rfl) (Nat.zero_le _) (h_put16 hG f (h_L 12 e (h_L 8 c (h_L 4 b (h_L 0 a L)))) _) (st1 := []) rfl ?_
  refine q_sg x_16_42 rfl rfl (pc1 := 43) (lv1 := [(0, .ref 0), (1, .int a), (2, .int b), (3, .int c), (4, .int e), (5, .int f)]) (st1 := [.ref 0]) rfl ?_
  refine q_s_get x_16_43 rfl (pc1 := 46) rfl (ci := 11) (k := 12) (ns := 0) (by decide +kernel) (q_ob (h_F0 hG 20 (h_L 16 f (h_L 12 e (h_L 8 c (h_L 4 b (h_L 0 a L)))))) rfl) (v := .int 20) rfl ?_
  exact q_sr x_16_46 rfl
theorem m_turn0 {G : q_H} (hG : 264 ≤ G.length) {a b c e f : Int32} {L : List (Nat × Int32)} {d n : Nat} (kk : ∀ L1, ∃ E1, q_run (q_callf 4000 d) (q_own 40) (q_maxL 40) (q_ini 40) (q_code 40) (q_ret 40) n 18 [(6, .int 1), (7, .int a), (0, .ref 448), (1, .int a), (2, .int b), (3, .int c), (4, .int e), (5, .int f)] [] (m_F G 1 L1) 0 0 = some (some (.int 20), E1, 0, 0)) : ∃ E1, q_run (q_callf 4000 d) (q_own 40) (q_maxL 40) (q_ini 40) (q_code 40) (q_ret 40) (n + 33) 18 [(6, .int 0), (0, .ref 448), (1, .int a), (2, .int b), (3, .int c), (4, .int e), (5, .int f)] [] (m_F G 0 L) 0 0 = some (some (.int 20), E1, 0, 0) := by
  obtain ⟨E1, kk⟩ := kk ((0, ((a >>> (24 &&& 31)) &&& 255)) :: L)
  refine ⟨E1, ?_⟩
  refine q_sg x_40_18 rfl rfl (pc1 := 20) (lv1 := [(6, .int 0), (0, .ref 448), (1, .int a), (2, .int b), (3, .int c), (4, .int e), (5, .int f)]) (st1 := [.int 0]) rfl ?_
  refine q_sg x_40_20 rfl rfl (pc1 := 22) (lv1 := [(6, .int 0), (0, .ref 448), (1, .int a), (2, .int b), (3, .int c), (4, .int e), (5, .int f)]) (st1 := [.int 20, .int 0]) rfl ?_
  refine q_sg x_40_22 rfl rfl (pc1 := 25) (lv1 := [(6, .int 0), (0, .ref 448), (1, .int a), (2, .int b), (3, .int c), (4, .int e), (5, .int f)]) (st1 := []) rfl ?_
  refine q_sg x_40_25 rfl rfl (pc1 := 27) (lv1 := [(6, .int 0), (0, .ref 448), (1, .int a), (2, .int b), (3, .int c), (4, .int e), (5, .int f)]) (st1 := [.int 0]) rfl ?_
  refine q_sg x_40_27 rfl rfl (pc1 := 28) (lv1 := [(6, .int 0), (0, .ref 448), (1, .int a), (2, .int b), (3, .int c), (4, .int e), (5, .int f)]) (st1 := [.int 4, .int 0]) rfl ?_
  refine q_sg x_40_28 rfl rfl (pc1 := 31) (lv1 := [(6, .int 0), (0, .ref 448), (1, .int a), (2, .int b), (3, .int c), (4, .int e), (5, .int f)]) (st1 := []) rfl ?_
  refine q_sg x_40_31 rfl rfl (pc1 := 32) (lv1 := [(6, .int 0), (0, .ref 448), (1, .int a), (2, .int b), (3, .int c), (4, .int e), (5, .int f)]) (st1 := [.int a]) rfl ?_
  refine q_sg x_40_32 rfl rfl (pc1 := 71) (lv1 := [(6, .int 0), (0, .ref 448), (1, .int a), (2, .int b), (3, .int c), (4, .int e), (5, .int f)]) (st1 := [.int a]) rfl ?_
  refine q_sg x_40_71 rfl rfl (pc1 := 73) (lv1 := [(7, .int a), (6, .int 0), (0, .ref 448), (1, .int a), (2, .int b), (3, .int c), (4, .int e), (5, .int f)]) (st1 := []) rfl ?_
  refine q_sg x_40_73 rfl rfl (pc1 := 74) (lv1 := [(7, .int a), (6, .int 0), (0, .ref 448), (1, .int a), (2, .int b), (3, .int c), (4, .int e), (5, .int f)]) (st1 := [.ref 448]) rfl ?_
  refine q_s_get x_40_74 rfl (pc1 := 77) rfl (ci := 12) (k := 1) (ns := 0) (by decide +kernel) (q_ob (m_F0 hG 0 L) rfl) (v := .ref 452) rfl ?_
  refine q_sg x_40_77 rfl rfl (pc1 := 78) (lv1 := [(7, .int a), (6, .int 0), (0, .ref 448), (1, .int a), (2, .int b), (3, .int c), (4, .int e), (5, .int f)]) (st1 := [.ref 448, .ref 452]) rfl ?_
  refine q_s_get x_40_78 rfl (pc1 := 81) rfl (ci := 12) (k := 2) (ns := 0) (by decide +kernel) (q_ob (m_F0 hG 0 L) rfl) (v := .int 0) rfl ?_
  refine q_sg x_40_81 rfl rfl (pc1 := 83) (lv1 := [(7, .int a), (6, .int 0), (0, .ref 448), (1, .int a), (2, .int b), (3, .int c), (4, .int e), (5, .int f)]) (st1 := [.int a, .int 0, .ref 452]) rfl ?_
  refine q_sg x_40_83 rfl rfl (pc1 := 85) (lv1 := [(7, .int a), (6, .int 0), (0, .ref 448), (1, .int a), (2, .int b), (3, .int c), (4, .int e), (5, .int f)]) (st1 := [.int 24, .int a, .int 0, .ref 452]) rfl ?_
  refine q_sg x_40_85 rfl rfl (pc1 := 87) (lv1 := [(7, .int a), (6, .int 0), (0, .ref 448), (1, .int a), (2, .int b), (3, .int c), (4, .int e), (5, .int f)]) (st1 := [.int 8, .int 24, .int a, .int 0, .ref 452]) rfl ?_
  refine q_sg x_40_87 rfl rfl (pc1 := 89) (lv1 := [(7, .int a), (6, .int 0), (0, .ref 448), (1, .int a), (2, .int b), (3, .int c), (4, .int e), (5, .int f)]) (st1 := [.int 0, .int 8, .int 24, .int a, .int 0, .ref 452]) rfl ?_
  refine q_sg x_40_89 rfl rfl (pc1 := 90) (lv1 := [(7, .int a), (6, .int 0), (0, .ref 448), (1, .int a), (2, .int b), (3, .int c), (4, .int e), (5, .int f)]) (st1 := [.int 4, .int 0, .int 8, .int 24, .int a, .int 0, .ref 452]) rfl ?_
  refine q_sg x_40_90 rfl rfl (pc1 := 91) (lv1 := [(7, .int a), (6, .int 0), (0, .ref 448), (1, .int a), (2, .int b), (3, .int c), (4, .int e), (5, .int f)]) (st1 := [.int 0, .int 8, .int 24, .int a, .int 0, .ref 452]) rfl ?_
  refine q_sg x_40_91 rfl rfl (pc1 := 92) (lv1 := [(7, .int a), (6, .int 0), (0, .ref 448), (1, .int a), (2, .int b), (3, .int c), (4, .int e), (5, .int f)]) (st1 := [.int 0, .int 24, .int a, .int 0, .ref 452]) rfl ?_
  refine q_sg x_40_92 rfl rfl (pc1 := 93) (lv1 := [(7, .int a), (6, .int 0), (0, .ref 448), (1, .int a), (2, .int b), (3, .int c), (4, .int e), (5, .int f)]) (st1 := [.int 24, .int a, .int 0, .ref 452]) rfl ?_
  refine q_sg x_40_93 rfl rfl (pc1 := 94) (lv1 := [(7, .int a), (6, .int 0), (0, .ref 448), (1, .int a), (2, .int b), (3, .int c), (4, .int e), (5, .int f)]) (st1 := [.int (a >>> (24 &&& 31)), .int 0, .ref 452]) rfl ?_
  refine q_sg x_40_94 rfl rfl (pc1 := 97) (lv1 := [(7, .int a), (6, .int 0), (0, .ref 448), (1, .int a), (2, .int b), (3, .int c), (4, .int e), (5, .int f)]) (st1 := [.int 255, .int (a >>> (24 &&& 31)), .int 0, .ref 452]) rfl ?_
  refine q_sg x_40_97 rfl rfl (pc1 := 98) (lv1 := [(7, .int a), (6, .int 0), (0, .ref 448), (1, .int a), (2, .int b), (3, .int c), (4, .int e), (5, .int f)]) (st1 := [.int ((a >>> (24 &&& 31)) &&& 255), .int 0, .ref 452]) rfl ?_
  refine q_s_ias x_40_98 (pc1 := 99) rfl (q_ar (m_F1 hG 0 L) rfl) (by decide +kernel) (j := 0) rfl (m_Fa _ _ ((0, ((a >>> (24 &&& 31)) &&& 255)) :: L)) ?_
  refine q_sg x_40_99 rfl rfl (pc1 := 100) (lv1 := [(7, .int a), (6, .int 0), (0, .ref 448), (1, .int a), (2, .int b), (3, .int c), (4, .int e), (5, .int f)]) (st1 := [.ref 448]) rfl ?_
  refine q_sg x_40_100 rfl rfl (pc1 := 101) (lv1 := [(7, .int a), (6, .int 0), (0, .ref 448), (1, .int a), (2, .int b), (3, .int c), (4, .int e), (5, .int f)]) (st1 := [.ref 448, .ref 448]) rfl ?_
  refine q_s_get x_40_101 rfl (pc1 := 104) rfl (ci := 12) (k := 2) (ns := 0) (by decide +kernel) (q_ob (m_F0 hG 0 ((0, ((a >>> (24 &&& 31)) &&& 255)) :: L)) rfl) (v := .int 0) rfl ?_
  refine q_sg x_40_104 rfl rfl (pc1 := 105) (lv1 := [(7, .int a), (6, .int 0), (0, .ref 448), (1, .int a), (2, .int b), (3, .int c), (4, .int e), (5, .int f)]) (st1 := [.int 1, .int 0, .ref 448]) rfl ?_
  refine q_sg x_40_105 rfl rfl (pc1 := 106) (lv1 := [(7, .int a), (6, .int 0), (0, .ref 448), (1, .int a), (2, .int b), (3, .int c), (4, .int e), (5, .int f)]) (st1 := [.int 1, .ref 448]) rfl ?_
  refine q_s_put x_40_106 (pc1 := 109) rfl (ci := 12) (k := 2) (ns := 0) (by decide +kernel) (q_ob (m_F0 hG 0 ((0, ((a >>> (24 &&& 31)) &&& 255)) :: L)) rfl) (by decide +kernel) (m_Fs _ 1 _) ?_
  refine q_sg x_40_109 rfl rfl (pc1 := 112) (lv1 := [(6, .int 1), (7, .int a), (0, .ref 448), (1, .int a), (2, .int b), (3, .int c), (4, .int e), (5, .int f)]) (st1 := []) rfl ?_
  refine q_sg x_40_112 rfl rfl (pc1 := 18) (lv1 := [(6, .int 1), (7, .int a), (0, .ref 448), (1, .int a), (2, .int b), (3, .int c), (4, .int e), (5, .int f)]) (st1 := []) rfl ?_
  exact kk
theorem m_turn1 {G : q_H} (hG : 264 ≤ G.length) {a b c e f : Int32} {L : List (Nat × Int32)} {d n : Nat} (kk : ∀ L1, ∃ E1, q_run (q_callf 4000 d) (q_own 40) (q_maxL 40) (q_ini 40) (q_code 40) (q_ret 40) n 18 [(6, .int 2), (7, .int a), (0, .ref 448), (1, .int a), (2, .int b), (3, .int c), (4, .int e), (5, .int f)] [] (m_F G 2 L1) 0 0 = some (some (.int 20), E1, 0, 0)) : ∃ E1, q_run (q_callf 4000 d) (q_own 40) (q_maxL 40) (q_ini 40) (q_code 40) (q_ret 40) (n + 33) 18 [(6, .int 1), (7, .int a), (0, .ref 448), (1, .int a), (2, .int b), (3, .int c), (4, .int e), (5, .int f)] [] (m_F G 1 L) 0 0 = some (some (.int 20), E1, 0, 0) := by
  obtain ⟨E1, kk⟩ := kk ((1, ((a >>> (16 &&& 31)) &&& 255)) :: L)
  refine ⟨E1, ?_⟩
  refine q_sg x_40_18 rfl rfl (pc1 := 20) (lv1 := [(6, .int 1), (7, .int a), (0, .ref 448), (1, .int a), (2, .int b), (3, .int c), (4, .int e), (5, .int f)]) (st1 := [.int 1]) rfl ?_
  refine q_sg x_40_20 rfl rfl (pc1 := 22) (lv1 := [(6, .int 1), (7, .int a), (0, .ref 448), (1, .int a), (2, .int b), (3, .int c), (4, .int e), (5, .int f)]) (st1 := [.int 20, .int 1]) rfl ?_
  refine q_sg x_40_22 rfl rfl (pc1 := 25) (lv1 := [(6, .int 1), (7, .int a), (0, .ref 448), (1, .int a), (2, .int b), (3, .int c), (4, .int e), (5, .int f)]) (st1 := []) rfl ?_
  refine q_sg x_40_25 rfl rfl (pc1 := 27) (lv1 := [(6, .int 1), (7, .int a), (0, .ref 448), (1, .int a), (2, .int b), (3, .int c), (4, .int e), (5, .int f)]) (st1 := [.int 1]) rfl ?_
  refine q_sg x_40_27 rfl rfl (pc1 := 28) (lv1 := [(6, .int 1), (7, .int a), (0, .ref 448), (1, .int a), (2, .int b), (3, .int c), (4, .int e), (5, .int f)]) (st1 := [.int 4, .int 1]) rfl ?_
  refine q_sg x_40_28 rfl rfl (pc1 := 31) (lv1 := [(6, .int 1), (7, .int a), (0, .ref 448), (1, .int a), (2, .int b), (3, .int c), (4, .int e), (5, .int f)]) (st1 := []) rfl ?_
  refine q_sg x_40_31 rfl rfl (pc1 := 32) (lv1 := [(6, .int 1), (7, .int a), (0, .ref 448), (1, .int a), (2, .int b), (3, .int c), (4, .int e), (5, .int f)]) (st1 := [.int a]) rfl ?_
  refine q_sg x_40_32 rfl rfl (pc1 := 71) (lv1 := [(6, .int 1), (7, .int a), (0, .ref 448), (1, .int a), (2, .int b), (3, .int c), (4, .int e), (5, .int f)]) (st1 := [.int a]) rfl ?_
  refine q_sg x_40_71 rfl rfl (pc1 := 73) (lv1 := [(7, .int a), (6, .int 1), (0, .ref 448), (1, .int a), (2, .int b), (3, .int c), (4, .int e), (5, .int f)]) (st1 := []) rfl ?_
  refine q_sg x_40_73 rfl rfl (pc1 := 74) (lv1 := [(7, .int a), (6, .int 1), (0, .ref 448), (1, .int a), (2, .int b), (3, .int c), (4, .int e), (5, .int f)]) (st1 := [.ref 448]) rfl ?_
  refine q_s_get x_40_74 rfl (pc1 := 77) rfl (ci := 12) (k := 1) (ns := 0) (by decide +kernel) (q_ob (m_F0 hG 1 L) rfl) (v := .ref 452) rfl ?_
  refine q_sg x_40_77 rfl rfl (pc1 := 78) (lv1 := [(7, .int a), (6, .int 1), (0, .ref 448), (1, .int a), (2, .int b), (3, .int c), (4, .int e), (5, .int f)]) (st1 := [.ref 448, .ref 452]) rfl ?_
  refine q_s_get x_40_78 rfl (pc1 := 81) rfl (ci := 12) (k := 2) (ns := 0) (by decide +kernel) (q_ob (m_F0 hG 1 L) rfl) (v := .int 1) rfl ?_
  refine q_sg x_40_81 rfl rfl (pc1 := 83) (lv1 := [(7, .int a), (6, .int 1), (0, .ref 448), (1, .int a), (2, .int b), (3, .int c), (4, .int e), (5, .int f)]) (st1 := [.int a, .int 1, .ref 452]) rfl ?_
  refine q_sg x_40_83 rfl rfl (pc1 := 85) (lv1 := [(7, .int a), (6, .int 1), (0, .ref 448), (1, .int a), (2, .int b), (3, .int c), (4, .int e), (5, .int f)]) (st1 := [.int 24, .int a, .int 1, .ref 452]) rfl ?_
  refine q_sg x_40_85 rfl rfl (pc1 := 87) (lv1 := [(7, .int a), (6, .int 1), (0, .ref 448), (1, .int a), (2, .int b), (3, .int c), (4, .int e), (5, .int f)]) (st1 := [.int 8, .int 24, .int a, .int 1, .ref 452]) rfl ?_
  refine q_sg x_40_87 rfl rfl (pc1 := 89) (lv1 := [(7, .int a), (6, .int 1), (0, .ref 448), (1, .int a), (2, .int b), (3, .int c), (4, .int e), (5, .int f)]) (st1 := [.int 1, .int 8, .int 24, .int a, .int 1, .ref 452]) rfl ?_
  refine q_sg x_40_89 rfl rfl (pc1 := 90) (lv1 := [(7, .int a), (6, .int 1), (0, .ref 448), (1, .int a), (2, .int b), (3, .int c), (4, .int e), (5, .int f)]) (st1 := [.int 4, .int 1, .int 8, .int 24, .int a, .int 1, .ref 452]) rfl ?_
  refine q_sg x_40_90 rfl rfl (pc1 := 91) (lv1 := [(7, .int a), (6, .int 1), (0, .ref 448), (1, .int a), (2, .int b), (3, .int c), (4, .int e), (5, .int f)]) (st1 := [.int 1, .int 8, .int 24, .int a, .int 1, .ref 452]) rfl ?_
  refine q_sg x_40_91 rfl rfl (pc1 := 92) (lv1 := [(7, .int a), (6, .int 1), (0, .ref 448), (1, .int a), (2, .int b), (3, .int c), (4, .int e), (5, .int f)]) (st1 := [.int 8, .int 24, .int a, .int 1, .ref 452]) rfl ?_
  refine q_sg x_40_92 rfl rfl (pc1 := 93) (lv1 := [(7, .int a), (6, .int 1), (0, .ref 448), (1, .int a), (2, .int b), (3, .int c), (4, .int e), (5, .int f)]) (st1 := [.int 16, .int a, .int 1, .ref 452]) rfl ?_
  refine q_sg x_40_93 rfl rfl (pc1 := 94) (lv1 := [(7, .int a), (6, .int 1), (0, .ref 448), (1, .int a), (2, .int b), (3, .int c), (4, .int e), (5, .int f)]) (st1 := [.int (a >>> (16 &&& 31)), .int 1, .ref 452]) rfl ?_
  refine q_sg x_40_94 rfl rfl (pc1 := 97) (lv1 := [(7, .int a), (6, .int 1), (0, .ref 448), (1, .int a), (2, .int b), (3, .int c), (4, .int e), (5, .int f)]) (st1 := [.int 255, .int (a >>> (16 &&& 31)), .int 1, .ref 452]) rfl ?_
  refine q_sg x_40_97 rfl rfl (pc1 := 98) (lv1 := [(7, .int a), (6, .int 1), (0, .ref 448), (1, .int a), (2, .int b), (3, .int c), (4, .int e), (5, .int f)]) (st1 := [.int ((a >>> (16 &&& 31)) &&& 255), .int 1, .ref 452]) rfl ?_
  refine q_s_ias x_40_98 (pc1 := 99) rfl (q_ar (m_F1 hG 1 L) rfl) (by decide +kernel) (j := 1) rfl (m_Fa _ _ ((1, ((a >>> (16 &&& 31)) &&& 255)) :: L)) ?_
  refine q_sg x_40_99 rfl rfl (pc1 := 100) (lv1 := [(7, .int a), (6, .int 1), (0, .ref 448), (1, .int a), (2, .int b), (3, .int c), (4, .int e), (5, .int f)]) (st1 := [.ref 448]) rfl ?_
  refine q_sg x_40_100 rfl rfl (pc1 := 101) (lv1 := [(7, .int a), (6, .int 1), (0, .ref 448), (1, .int a), (2, .int b), (3, .int c), (4, .int e), (5, .int f)]) (st1 := [.ref 448, .ref 448]) rfl ?_
  refine q_s_get x_40_101 rfl (pc1 := 104) rfl (ci := 12) (k := 2) (ns := 0) (by decide +kernel) (q_ob (m_F0 hG 1 ((1, ((a >>> (16 &&& 31)) &&& 255)) :: L)) rfl) (v := .int 1) rfl ?_
  refine q_sg x_40_104 rfl rfl (pc1 := 105) (lv1 := [(7, .int a), (6, .int 1), (0, .ref 448), (1, .int a), (2, .int b), (3, .int c), (4, .int e), (5, .int f)]) (st1 := [.int 1, .int 1, .ref 448]) rfl ?_
  refine q_sg x_40_105 rfl rfl (pc1 := 106) (lv1 := [(7, .int a), (6, .int 1), (0, .ref 448), (1, .int a), (2, .int b), (3, .int c), (4, .int e), (5, .int f)]) (st1 := [.int 2, .ref 448]) rfl ?_
  refine q_s_put x_40_106 (pc1 := 109) rfl (ci := 12) (k := 2) (ns := 0) (by decide +kernel) (q_ob (m_F0 hG 1 ((1, ((a >>> (16 &&& 31)) &&& 255)) :: L)) rfl) (by decide +kernel) (m_Fs _ 2 _) ?_
  refine q_sg x_40_109 rfl rfl (pc1 := 112) (lv1 := [(6, .int 2), (7, .int a), (0, .ref 448), (1, .int a), (2, .int b), (3, .int c), (4, .int e), (5, .int f)]) (st1 := []) rfl ?_
  refine q_sg x_40_112 rfl rfl (pc1 := 18) (lv1 := [(6, .int 2), (7, .int a), (0, .ref 448), (1, .int a), (2, .int b), (3, .int c), (4, .int e), (5, .int f)]) (st1 := []) rfl ?_
  exact kk
theorem m_turn2 {G : q_H} (hG : 264 ≤ G.length) {a b c e f : Int32} {L : List (Nat × Int32)} {d n : Nat} (kk : ∀ L1, ∃ E1, q_run (q_callf 4000 d) (q_own 40) (q_maxL 40) (q_ini 40) (q_code 40) (q_ret 40) n 18 [(6, .int 3), (7, .int a), (0, .ref 448), (1, .int a), (2, .int b), (3, .int c), (4, .int e), (5, .int f)] [] (m_F G 3 L1) 0 0 = some (some (.int 20), E1, 0, 0)) : ∃ E1, q_run (q_callf 4000 d) (q_own 40) (q_maxL 40) (q_ini 40) (q_code 40) (q_ret 40) (n + 33) 18 [(6, .int 2), (7, .int a), (0, .ref 448), (1, .int a), (2, .int b), (3, .int c), (4, .int e), (5, .int f)] [] (m_F G 2 L) 0 0 = some (some (.int 20), E1, 0, 0) := by
  obtain ⟨E1, kk⟩ := kk ((2, ((a >>> (8 &&& 31)) &&& 255)) :: L)
  refine ⟨E1, ?_⟩
  refine q_sg x_40_18 rfl rfl (pc1 := 20) (lv1 := [(6, .int 2), (7, .int a), (0, .ref 448), (1, .int a), (2, .int b), (3, .int c), (4, .int e), (5, .int f)]) (st1 := [.int 2]) rfl ?_
  refine q_sg x_40_20 rfl rfl (pc1 := 22) (lv1 := [(6, .int 2), (7, .int a), (0, .ref 448), (1, .int a), (2, .int b), (3, .int c), (4, .int e), (5, .int f)]) (st1 := [.int 20, .int 2]) rfl ?_
  refine q_sg x_40_22 rfl rfl (pc1 := 25) (lv1 := [(6, .int 2), (7, .int a), (0, .ref 448), (1, .int a), (2, .int b), (3, .int c), (4, .int e), (5, .int f)]) (st1 := []) rfl ?_
  refine q_sg x_40_25 rfl rfl (pc1 := 27) (lv1 := [(6, .int 2), (7, .int a), (0, .ref 448), (1, .int a), (2, .int b), (3, .int c), (4, .int e), (5, .int f)]) (st1 := [.int 2]) rfl ?_
  refine q_sg x_40_27 rfl rfl (pc1 := 28) (lv1 := [(6, .int 2), (7, .int a), (0, .ref 448), (1, .int a), (2, .int b), (3, .int c), (4, .int e), (5, .int f)]) (st1 := [.int 4, .int 2]) rfl ?_
  refine q_sg x_40_28 rfl rfl (pc1 := 31) (lv1 := [(6, .int 2), (7, .int a), (0, .ref 448), (1, .int a), (2, .int b), (3, .int c), (4, .int e), (5, .int f)]) (st1 := []) rfl ?_
  refine q_sg x_40_31 rfl rfl (pc1 := 32) (lv1 := [(6, .int 2), (7, .int a), (0, .ref 448), (1, .int a), (2, .int b), (3, .int c), (4, .int e), (5, .int f)]) (st1 := [.int a]) rfl ?_
  refine q_sg x_40_32 rfl rfl (pc1 := 71) (lv1 := [(6, .int 2), (7, .int a), (0, .ref 448), (1, .int a), (2, .int b), (3, .int c), (4, .int e), (5, .int f)]) (st1 := [.int a]) rfl ?_
  refine q_sg x_40_71 rfl rfl (pc1 := 73) (lv1 := [(7, .int a), (6, .int 2), (0, .ref 448), (1, .int a), (2, .int b), (3, .int c), (4, .int e), (5, .int f)]) (st1 := []) rfl ?_
  refine q_sg x_40_73 rfl rfl (pc1 := 74) (lv1 := [(7, .int a), (6, .int 2), (0, .ref 448), (1, .int a), (2, .int b), (3, .int c), (4, .int e), (5, .int f)]) (st1 := [.ref 448]) rfl ?_
  refine q_s_get x_40_74 rfl (pc1 := 77) rfl (ci := 12) (k := 1) (ns := 0) (by decide +kernel) (q_ob (m_F0 hG 2 L) rfl) (v := .ref 452) rfl ?_
  refine q_sg x_40_77 rfl rfl (pc1 := 78) (lv1 := [(7, .int a), (6, .int 2), (0, .ref 448), (1, .int a), (2, .int b), (3, .int c), (4, .int e), (5, .int f)]) (st1 := [.ref 448, .ref 452]) rfl ?_
  refine q_s_get x_40_78 rfl (pc1 := 81) rfl (ci := 12) (k := 2) (ns := 0) (by decide +kernel) (q_ob (m_F0 hG 2 L) rfl) (v := .int 2) rfl ?_
  refine q_sg x_40_81 rfl rfl (pc1 := 83) (lv1 := [(7, .int a), (6, .int 2), (0, .ref 448), (1, .int a), (2, .int b), (3, .int c), (4, .int e), (5, .int f)]) (st1 := [.int a, .int 2, .ref 452]) rfl ?_
  refine q_sg x_40_83 rfl rfl (pc1 := 85) (lv1 := [(7, .int a), (6, .int 2), (0, .ref 448), (1, .int a), (2, .int b), (3, .int c), (4, .int e), (5, .int f)]) (st1 := [.int 24, .int a, .int 2, .ref 452]) rfl ?_
  refine q_sg x_40_85 rfl rfl (pc1 := 87) (lv1 := [(7, .int a), (6, .int 2), (0, .ref 448), (1, .int a), (2, .int b), (3, .int c), (4, .int e), (5, .int f)]) (st1 := [.int 8, .int 24, .int a, .int 2, .ref 452]) rfl ?_
  refine q_sg x_40_87 rfl rfl (pc1 := 89) (lv1 := [(7, .int a), (6, .int 2), (0, .ref 448), (1, .int a), (2, .int b), (3, .int c), (4, .int e), (5, .int f)]) (st1 := [.int 2, .int 8, .int 24, .int a, .int 2, .ref 452]) rfl ?_
  refine q_sg x_40_89 rfl rfl (pc1 := 90) (lv1 := [(7, .int a), (6, .int 2), (0, .ref 448), (1, .int a), (2, .int b), (3, .int c), (4, .int e), (5, .int f)]) (st1 := [.int 4, .int 2, .int 8, .int 24, .int a, .int 2, .ref 452]) rfl ?_
  refine q_sg x_40_90 rfl rfl (pc1 := 91) (lv1 := [(7, .int a), (6, .int 2), (0, .ref 448), (1, .int a), (2, .int b), (3, .int c), (4, .int e), (5, .int f)]) (st1 := [.int 2, .int 8, .int 24, .int a, .int 2, .ref 452]) rfl ?_
  refine q_sg x_40_91 rfl rfl (pc1 := 92) (lv1 := [(7, .int a), (6, .int 2), (0, .ref 448), (1, .int a), (2, .int b), (3, .int c), (4, .int e), (5, .int f)]) (st1 := [.int 16, .int 24, .int a, .int 2, .ref 452]) rfl ?_
  refine q_sg x_40_92 rfl rfl (pc1 := 93) (lv1 := [(7, .int a), (6, .int 2), (0, .ref 448), (1, .int a), (2, .int b), (3, .int c), (4, .int e), (5, .int f)]) (st1 := [.int 8, .int a, .int 2, .ref 452]) rfl ?_
  refine q_sg x_40_93 rfl rfl (pc1 := 94) (lv1 := [(7, .int a), (6, .int 2), (0, .ref 448), (1, .int a), (2, .int b), (3, .int c), (4, .int e), (5, .int f)]) (st1 := [.int (a >>> (8 &&& 31)), .int 2, .ref 452]) rfl ?_
  refine q_sg x_40_94 rfl rfl (pc1 := 97) (lv1 := [(7, .int a), (6, .int 2), (0, .ref 448), (1, .int a), (2, .int b), (3, .int c), (4, .int e), (5, .int f)]) (st1 := [.int 255, .int (a >>> (8 &&& 31)), .int 2, .ref 452]) rfl ?_
  refine q_sg x_40_97 rfl rfl (pc1 := 98) (lv1 := [(7, .int a), (6, .int 2), (0, .ref 448), (1, .int a), (2, .int b), (3, .int c), (4, .int e), (5, .int f)]) (st1 := [.int ((a >>> (8 &&& 31)) &&& 255), .int 2, .ref 452]) rfl ?_
  refine q_s_ias x_40_98 (pc1 := 99) rfl (q_ar (m_F1 hG 2 L) rfl) (by decide +kernel) (j := 2) rfl (m_Fa _ _ ((2, ((a >>> (8 &&& 31)) &&& 255)) :: L)) ?_
  refine q_sg x_40_99 rfl rfl (pc1 := 100) (lv1 := [(7, .int a), (6, .int 2), (0, .ref 448), (1, .int a), (2, .int b), (3, .int c), (4, .int e), (5, .int f)]) (st1 := [.ref 448]) rfl ?_
  refine q_sg x_40_100 rfl rfl (pc1 := 101) (lv1 := [(7, .int a), (6, .int 2), (0, .ref 448), (1, .int a), (2, .int b), (3, .int c), (4, .int e), (5, .int f)]) (st1 := [.ref 448, .ref 448]) rfl ?_
  refine q_s_get x_40_101 rfl (pc1 := 104) rfl (ci := 12) (k := 2) (ns := 0) (by decide +kernel) (q_ob (m_F0 hG 2 ((2, ((a >>> (8 &&& 31)) &&& 255)) :: L)) rfl) (v := .int 2) rfl ?_
  refine q_sg x_40_104 rfl rfl (pc1 := 105) (lv1 := [(7, .int a), (6, .int 2), (0, .ref 448), (1, .int a), (2, .int b), (3, .int c), (4, .int e), (5, .int f)]) (st1 := [.int 1, .int 2, .ref 448]) rfl ?_
  refine q_sg x_40_105 rfl rfl (pc1 := 106) (lv1 := [(7, .int a), (6, .int 2), (0, .ref 448), (1, .int a), (2, .int b), (3, .int c), (4, .int e), (5, .int f)]) (st1 := [.int 3, .ref 448]) rfl ?_
  refine q_s_put x_40_106 (pc1 := 109) rfl (ci := 12) (k := 2) (ns := 0) (by decide +kernel) (q_ob (m_F0 hG 2 ((2, ((a >>> (8 &&& 31)) &&& 255)) :: L)) rfl) (by decide +kernel) (m_Fs _ 3 _) ?_
  refine q_sg x_40_109 rfl rfl (pc1 := 112) (lv1 := [(6, .int 3), (7, .int a), (0, .ref 448), (1, .int a), (2, .int b), (3, .int c), (4, .int e), (5, .int f)]) (st1 := []) rfl ?_
  refine q_sg x_40_112 rfl rfl (pc1 := 18) (lv1 := [(6, .int 3), (7, .int a), (0, .ref 448), (1, .int a), (2, .int b), (3, .int c), (4, .int e), (5, .int f)]) (st1 := []) rfl ?_
  exact kk
theorem m_turn3 {G : q_H} (hG : 264 ≤ G.length) {a b c e f : Int32} {L : List (Nat × Int32)} {d n : Nat} (kk : ∀ L1, ∃ E1, q_run (q_callf 4000 d) (q_own 40) (q_maxL 40) (q_ini 40) (q_code 40) (q_ret 40) n 18 [(6, .int 4), (7, .int a), (0, .ref 448), (1, .int a), (2, .int b), (3, .int c), (4, .int e), (5, .int f)] [] (m_F G 4 L1) 0 0 = some (some (.int 20), E1, 0, 0)) : ∃ E1, q_run (q_callf 4000 d) (q_own 40) (q_maxL 40) (q_ini 40) (q_code 40) (q_ret 40) (n + 33) 18 [(6, .int 3), (7, .int a), (0, .ref 448), (1, .int a), (2, .int b), (3, .int c), (4, .int e), (5, .int f)] [] (m_F G 3 L) 0 0 = some (some (.int 20), E1, 0, 0) := by
  obtain ⟨E1, kk⟩ := kk ((3, ((a >>> (0 &&& 31)) &&& 255)) :: L)
  refine ⟨E1, ?_⟩
  refine q_sg x_40_18 rfl rfl (pc1 := 20) (lv1 := [(6, .int 3), (7, .int a), (0, .ref 448), (1, .int a), (2, .int b), (3, .int c), (4, .int e), (5, .int f)]) (st1 := [.int 3]) rfl ?_
  refine q_sg x_40_20 rfl rfl (pc1 := 22) (lv1 := [(6, .int 3), (7, .int a), (0, .ref 448), (1, .int a), (2, .int b), (3, .int c), (4, .int e), (5, .int f)]) (st1 := [.int 20, .int 3]) rfl ?_
  refine q_sg x_40_22 rfl rfl (pc1 := 25) (lv1 := [(6, .int 3), (7, .int a), (0, .ref 448), (1, .int a), (2, .int b), (3, .int c), (4, .int e), (5, .int f)]) (st1 := []) rfl ?_
  refine q_sg x_40_25 rfl rfl (pc1 := 27) (lv1 := [(6, .int 3), (7, .int a), (0, .ref 448), (1, .int a), (2, .int b), (3, .int c), (4, .int e), (5, .int f)]) (st1 := [.int 3]) rfl ?_
  refine q_sg x_40_27 rfl rfl (pc1 := 28) (lv1 := [(6, .int 3), (7, .int a), (0, .ref 448), (1, .int a), (2, .int b), (3, .int c), (4, .int e), (5, .int f)]) (st1 := [.int 4, .int 3]) rfl ?_
  refine q_sg x_40_28 rfl rfl (pc1 := 31) (lv1 := [(6, .int 3), (7, .int a), (0, .ref 448), (1, .int a), (2, .int b), (3, .int c), (4, .int e), (5, .int f)]) (st1 := []) rfl ?_
  refine q_sg x_40_31 rfl rfl (pc1 := 32) (lv1 := [(6, .int 3), (7, .int a), (0, .ref 448), (1, .int a), (2, .int b), (3, .int c), (4, .int e), (5, .int f)]) (st1 := [.int a]) rfl ?_
  refine q_sg x_40_32 rfl rfl (pc1 := 71) (lv1 := [(6, .int 3), (7, .int a), (0, .ref 448), (1, .int a), (2, .int b), (3, .int c), (4, .int e), (5, .int f)]) (st1 := [.int a]) rfl ?_
  refine q_sg x_40_71 rfl rfl (pc1 := 73) (lv1 := [(7, .int a), (6, .int 3), (0, .ref 448), (1, .int a), (2, .int b), (3, .int c), (4, .int e), (5, .int f)]) (st1 := []) rfl ?_
  refine q_sg x_40_73 rfl rfl (pc1 := 74) (lv1 := [(7, .int a), (6, .int 3), (0, .ref 448), (1, .int a), (2, .int b), (3, .int c), (4, .int e), (5, .int f)]) (st1 := [.ref 448]) rfl ?_
  refine q_s_get x_40_74 rfl (pc1 := 77) rfl (ci := 12) (k := 1) (ns := 0) (by decide +kernel) (q_ob (m_F0 hG 3 L) rfl) (v := .ref 452) rfl ?_
  refine q_sg x_40_77 rfl rfl (pc1 := 78) (lv1 := [(7, .int a), (6, .int 3), (0, .ref 448), (1, .int a), (2, .int b), (3, .int c), (4, .int e), (5, .int f)]) (st1 := [.ref 448, .ref 452]) rfl ?_
  refine q_s_get x_40_78 rfl (pc1 := 81) rfl (ci := 12) (k := 2) (ns := 0) (by decide +kernel) (q_ob (m_F0 hG 3 L) rfl) (v := .int 3) rfl ?_
  refine q_sg x_40_81 rfl rfl (pc1 := 83) (lv1 := [(7, .int a), (6, .int 3), (0, .ref 448), (1, .int a), (2, .int b), (3, .int c), (4, .int e), (5, .int f)]) (st1 := [.int a, .int 3, .ref 452]) rfl ?_
  refine q_sg x_40_83 rfl rfl (pc1 := 85) (lv1 := [(7, .int a), (6, .int 3), (0, .ref 448), (1, .int a), (2, .int b), (3, .int c), (4, .int e), (5, .int f)]) (st1 := [.int 24, .int a, .int 3, .ref 452]) rfl ?_
  refine q_sg x_40_85 rfl rfl (pc1 := 87) (lv1 := [(7, .int a), (6, .int 3), (0, .ref 448), (1, .int a), (2, .int b), (3, .int c), (4, .int e), (5, .int f)]) (st1 := [.int 8, .int 24, .int a, .int 3, .ref 452]) rfl ?_
  refine q_sg x_40_87 rfl rfl (pc1 := 89) (lv1 := [(7, .int a), (6, .int 3), (0, .ref 448), (1, .int a), (2, .int b), (3, .int c), (4, .int e), (5, .int f)]) (st1 := [.int 3, .int 8, .int 24, .int a, .int 3, .ref 452]) rfl ?_
  refine q_sg x_40_89 rfl rfl (pc1 := 90) (lv1 := [(7, .int a), (6, .int 3), (0, .ref 448), (1, .int a), (2, .int b), (3, .int c), (4, .int e), (5, .int f)]) (st1 := [.int 4, .int 3, .int 8, .int 24, .int a, .int 3, .ref 452]) rfl ?_
  refine q_sg x_40_90 rfl rfl (pc1 := 91) (lv1 := [(7, .int a), (6, .int 3), (0, .ref 448), (1, .int a), (2, .int b), (3, .int c), (4, .int e), (5, .int f)]) (st1 := [.int 3, .int 8, .int 24, .int a, .int 3, .ref 452]) rfl ?_
  refine q_sg x_40_91 rfl rfl (pc1 := 92) (lv1 := [(7, .int a), (6, .int 3), (0, .ref 448), (1, .int a), (2, .int b), (3, .int c), (4, .int e), (5, .int f)]) (st1 := [.int 24, .int 24, .int a, .int 3, .ref 452]) rfl ?_
  refine q_sg x_40_92 rfl rfl (pc1 := 93) (lv1 := [(7, .int a), (6, .int 3), (0, .ref 448), (1, .int a), (2, .int b), (3, .int c), (4, .int e), (5, .int f)]) (st1 := [.int 0, .int a, .int 3, .ref 452]) rfl ?_
  refine q_sg x_40_93 rfl rfl (pc1 := 94) (lv1 := [(7, .int a), (6, .int 3), (0, .ref 448), (1, .int a), (2, .int b), (3, .int c), (4, .int e), (5, .int f)]) (st1 := [.int (a >>> (0 &&& 31)), .int 3, .ref 452]) rfl ?_
  refine q_sg x_40_94 rfl rfl (pc1 := 97) (lv1 := [(7, .int a), (6, .int 3), (0, .ref 448), (1, .int a), (2, .int b), (3, .int c), (4, .int e), (5, .int f)]) (st1 := [.int 255, .int (a >>> (0 &&& 31)), .int 3, .ref 452]) rfl ?_
  refine q_sg x_40_97 rfl rfl (pc1 := 98) (lv1 := [(7, .int a), (6, .int 3), (0, .ref 448), (1, .int a), (2, .int b), (3, .int c), (4, .int e), (5, .int f)]) (st1 := [.int ((a >>> (0 &&& 31)) &&& 255), .int 3, .ref 452]) rfl ?_
  refine q_s_ias x_40_98 (pc1 := 99) rfl (q_ar (m_F1 hG 3 L) rfl) (by decide +kernel) (j := 3) rfl (m_Fa _ _ ((3, ((a >>> (0 &&& 31)) &&& 255)) :: L)) ?_
  refine q_sg x_40_99 rfl rfl (pc1 := 100) (lv1 := [(7, .int a), (6, .int 3), (0, .ref 448), (1, .int a), (2, .int b), (3, .int c), (4, .int e), (5, .int f)]) (st1 := [.ref 448]) rfl ?_
  refine q_sg x_40_100 rfl rfl (pc1 := 101) (lv1 := [(7, .int a), (6, .int 3), (0, .ref 448), (1, .int a), (2, .int b), (3, .int c), (4, .int e), (5, .int f)]) (st1 := [.ref 448, .ref 448]) rfl ?_
  refine q_s_get x_40_101 rfl (pc1 := 104) rfl (ci := 12) (k := 2) (ns := 0) (by decide +kernel) (q_ob (m_F0 hG 3 ((3, ((a >>> (0 &&& 31)) &&& 255)) :: L)) rfl) (v := .int 3) rfl ?_
  refine q_sg x_40_104 rfl rfl (pc1 := 105) (lv1 := [(7, .int a), (6, .int 3), (0, .ref 448), (1, .int a), (2, .int b), (3, .int c), (4, .int e), (5, .int f)]) (st1 := [.int 1, .int 3, .ref 448]) rfl ?_
  refine q_sg x_40_105 rfl rfl (pc1 := 106) (lv1 := [(7, .int a), (6, .int 3), (0, .ref 448), (1, .int a), (2, .int b), (3, .int c), (4, .int e), (5, .int f)]) (st1 := [.int 4, .ref 448]) rfl ?_
  refine q_s_put x_40_106 (pc1 := 109) rfl (ci := 12) (k := 2) (ns := 0) (by decide +kernel) (q_ob (m_F0 hG 3 ((3, ((a >>> (0 &&& 31)) &&& 255)) :: L)) rfl) (by decide +kernel) (m_Fs _ 4 _) ?_
  refine q_sg x_40_109 rfl rfl (pc1 := 112) (lv1 := [(6, .int 4), (7, .int a), (0, .ref 448), (1, .int a), (2, .int b), (3, .int c), (4, .int e), (5, .int f)]) (st1 := []) rfl ?_
  refine q_sg x_40_112 rfl rfl (pc1 := 18) (lv1 := [(6, .int 4), (7, .int a), (0, .ref 448), (1, .int a), (2, .int b), (3, .int c), (4, .int e), (5, .int f)]) (st1 := []) rfl ?_
  exact kk
theorem m_turn4 {G : q_H} (hG : 264 ≤ G.length) {a b c e f : Int32} {L : List (Nat × Int32)} {d n : Nat} (kk : ∀ L1, ∃ E1, q_run (q_callf 4000 d) (q_own 40) (q_maxL 40) (q_ini 40) (q_code 40) (q_ret 40) n 18 [(6, .int 5), (7, .int b), (0, .ref 448), (1, .int a), (2, .int b), (3, .int c), (4, .int e), (5, .int f)] [] (m_F G 5 L1) 0 0 = some (some (.int 20), E1, 0, 0)) : ∃ E1, q_run (q_callf 4000 d) (q_own 40) (q_maxL 40) (q_ini 40) (q_code 40) (q_ret 40) (n + 36) 18 [(6, .int 4), (7, .int a), (0, .ref 448), (1, .int a), (2, .int b), (3, .int c), (4, .int e), (5, .int f)] [] (m_F G 4 L) 0 0 = some (some (.int 20), E1, 0, 0) := by
  obtain ⟨E1, kk⟩ := kk ((4, ((b >>> (24 &&& 31)) &&& 255)) :: L)
  refine ⟨E1, ?_⟩
  refine q_sg x_40_18 rfl rfl (pc1 := 20) (lv1 := [(6, .int 4), (7, .int a), (0, .ref 448), (1, .int a), (2, .int b), (3, .int c), (4, .int e), (5, .int f)]) (st1 := [.int 4]) rfl ?_
  refine q_sg x_40_20 rfl rfl (pc1 := 22) (lv1 := [(6, .int 4), (7, .int a), (0, .ref 448), (1, .int a), (2, .int b), (3, .int c), (4, .int e), (5, .int f)]) (st1 := [.int 20, .int 4]) rfl ?_
  refine q_sg x_40_22 rfl rfl (pc1 := 25) (lv1 := [(6, .int 4), (7, .int a), (0, .ref 448), (1, .int a), (2, .int b), (3, .int c), (4, .int e), (5, .int f)]) (st1 := []) rfl ?_
  refine q_sg x_40_25 rfl rfl (pc1 := 27) (lv1 := [(6, .int 4), (7, .int a), (0, .ref 448), (1, .int a), (2, .int b), (3, .int c), (4, .int e), (5, .int f)]) (st1 := [.int 4]) rfl ?_
  refine q_sg x_40_27 rfl rfl (pc1 := 28) (lv1 := [(6, .int 4), (7, .int a), (0, .ref 448), (1, .int a), (2, .int b), (3, .int c), (4, .int e), (5, .int f)]) (st1 := [.int 4, .int 4]) rfl ?_
  refine q_sg x_40_28 rfl rfl (pc1 := 35) (lv1 := [(6, .int 4), (7, .int a), (0, .ref 448), (1, .int a), (2, .int b), (3, .int c), (4, .int e), (5, .int f)]) (st1 := []) rfl ?_
  refine q_sg x_40_35 rfl rfl (pc1 := 37) (lv1 := [(6, .int 4), (7, .int a), (0, .ref 448), (1, .int a), (2, .int b), (3, .int c), (4, .int e), (5, .int f)]) (st1 := [.int 4]) rfl ?_
  refine q_sg x_40_37 rfl rfl (pc1 := 39) (lv1 := [(6, .int 4), (7, .int a), (0, .ref 448), (1, .int a), (2, .int b), (3, .int c), (4, .int e), (5, .int f)]) (st1 := [.int 8, .int 4]) rfl ?_
  refine q_sg x_40_39 rfl rfl (pc1 := 42) (lv1 := [(6, .int 4), (7, .int a), (0, .ref 448), (1, .int a), (2, .int b), (3, .int c), (4, .int e), (5, .int f)]) (st1 := []) rfl ?_
  refine q_sg x_40_42 rfl rfl (pc1 := 43) (lv1 := [(6, .int 4), (7, .int a), (0, .ref 448), (1, .int a), (2, .int b), (3, .int c), (4, .int e), (5, .int f)]) (st1 := [.int b]) rfl ?_
  refine q_sg x_40_43 rfl rfl (pc1 := 71) (lv1 := [(6, .int 4), (7, .int a), (0, .ref 448), (1, .int a), (2, .int b), (3, .int c), (4, .int e), (5, .int f)]) (st1 := [.int b]) rfl ?_
  refine q_sg x_40_71 rfl rfl (pc1 := 73) (lv1 := [(7, .int b), (6, .int 4), (0, .ref 448), (1, .int a), (2, .int b), (3, .int c), (4, .int e), (5, .int f)]) (st1 := []) rfl ?_
  refine q_sg x_40_73 rfl rfl (pc1 := 74) (lv1 := [(7, .int b), (6, .int 4), (0, .ref 448), (1, .int a), (2, .int b), (3, .int c), (4, .int e), (5, .int f)]) (st1 := [.ref 448]) rfl ?_
  refine q_s_get x_40_74 rfl (pc1 := 77) rfl (ci := 12) (k := 1) (ns := 0) (by decide +kernel) (q_ob (m_F0 hG 4 L) rfl) (v := .ref 452) rfl ?_
  refine q_sg x_40_77 rfl rfl (pc1 := 78) (lv1 := [(7, .int b), (6, .int 4), (0, .ref 448), (1, .int a), (2, .int b), (3, .int c), (4, .int e), (5, .int f)]) (st1 := [.ref 448, .ref 452]) rfl ?_
  refine q_s_get x_40_78 rfl (pc1 := 81) rfl (ci := 12) (k := 2) (ns := 0) (by decide +kernel) (q_ob (m_F0 hG 4 L) rfl) (v := .int 4) rfl ?_
  refine q_sg x_40_81 rfl rfl (pc1 := 83) (lv1 := [(7, .int b), (6, .int 4), (0, .ref 448), (1, .int a), (2, .int b), (3, .int c), (4, .int e), (5, .int f)]) (st1 := [.int b, .int 4, .ref 452]) rfl ?_
  refine q_sg x_40_83 rfl rfl (pc1 := 85) (lv1 := [(7, .int b), (6, .int 4), (0, .ref 448), (1, .int a), (2, .int b), (3, .int c), (4, .int e), (5, .int f)]) (st1 := [.int 24, .int b, .int 4, .ref 452]) rfl ?_
  refine q_sg x_40_85 rfl rfl (pc1 := 87) (lv1 := [(7, .int b), (6, .int 4), (0, .ref 448), (1, .int a), (2, .int b), (3, .int c), (4, .int e), (5, .int f)]) (st1 := [.int 8, .int 24, .int b, .int 4, .ref 452]) rfl ?_
  refine q_sg x_40_87 rfl rfl (pc1 := 89) (lv1 := [(7, .int b), (6, .int 4), (0, .ref 448), (1, .int a), (2, .int b), (3, .int c), (4, .int e), (5, .int f)]) (st1 := [.int 4, .int 8, .int 24, .int b, .int 4, .ref 452]) rfl ?_
  refine q_sg x_40_89 rfl rfl (pc1 := 90) (lv1 := [(7, .int b), (6, .int 4), (0, .ref 448), (1, .int a), (2, .int b), (3, .int c), (4, .int e), (5, .int f)]) (st1 := [.int 4, .int 4, .int 8, .int 24, .int b, .int 4, .ref 452]) rfl ?_
  refine q_sg x_40_90 rfl rfl (pc1 := 91) (lv1 := [(7, .int b), (6, .int 4), (0, .ref 448), (1, .int a), (2, .int b), (3, .int c), (4, .int e), (5, .int f)]) (st1 := [.int 0, .int 8, .int 24, .int b, .int 4, .ref 452]) rfl ?_
  refine q_sg x_40_91 rfl rfl (pc1 := 92) (lv1 := [(7, .int b), (6, .int 4), (0, .ref 448), (1, .int a), (2, .int b), (3, .int c), (4, .int e), (5, .int f)]) (st1 := [.int 0, .int 24, .int b, .int 4, .ref 452]) rfl ?_
  refine q_sg x_40_92 rfl rfl (pc1 := 93) (lv1 := [(7, .int b), (6, .int 4), (0, .ref 448), (1, .int a), (2, .int b), (3, .int c), (4, .int e), (5, .int f)]) (st1 := [.int 24, .int b, .int 4, .ref 452]) rfl ?_
  refine q_sg x_40_93 rfl rfl (pc1 := 94) (lv1 := [(7, .int b), (6, .int 4), (0, .ref 448), (1, .int a), (2, .int b), (3, .int c), (4, .int e), (5, .int f)]) (st1 := [.int (b >>> (24 &&& 31)), .int 4, .ref 452]) rfl ?_
  refine q_sg x_40_94 rfl rfl (pc1 := 97) (lv1 := [(7, .int b), (6, .int 4), (0, .ref 448), (1, .int a), (2, .int b), (3, .int c), (4, .int e), (5, .int f)]) (st1 := [.int 255, .int (b >>> (24 &&& 31)), .int 4, .ref 452]) rfl ?_
  refine q_sg x_40_97 rfl rfl (pc1 := 98) (lv1 := [(7, .int b), (6, .int 4), (0, .ref 448), (1, .int a), (2, .int b), (3, .int c), (4, .int e), (5, .int f)]) (st1 := [.int ((b >>> (24 &&& 31)) &&& 255), .int 4, .ref 452]) rfl ?_
  refine q_s_ias x_40_98 (pc1 := 99) rfl (q_ar (m_F1 hG 4 L) rfl) (by decide +kernel) (j := 4) rfl (m_Fa _ _ ((4, ((b >>> (24 &&& 31)) &&& 255)) :: L)) ?_
  refine q_sg x_40_99 rfl rfl (pc1 := 100) (lv1 := [(7, .int b), (6, .int 4), (0, .ref 448), (1, .int a), (2, .int b), (3, .int c), (4, .int e), (5, .int f)]) (st1 := [.ref 448]) rfl ?_
  refine q_sg x_40_100 rfl rfl (pc1 := 101) (lv1 := [(7, .int b), (6, .int 4), (0, .ref 448), (1, .int a), (2, .int b), (3, .int c), (4, .int e), (5, .int f)]) (st1 := [.ref 448, .ref 448]) rfl ?_
  refine q_s_get x_40_101 rfl (pc1 := 104) rfl (ci := 12) (k := 2) (ns := 0) (by decide +kernel) (q_ob (m_F0 hG 4 ((4, ((b >>> (24 &&& 31)) &&& 255)) :: L)) rfl) (v := .int 4) rfl ?_
  refine q_sg x_40_104 rfl rfl (pc1 := 105) (lv1 := [(7, .int b), (6, .int 4), (0, .ref 448), (1, .int a), (2, .int b), (3, .int c), (4, .int e), (5, .int f)]) (st1 := [.int 1, .int 4, .ref 448]) rfl ?_
  refine q_sg x_40_105 rfl rfl (pc1 := 106) (lv1 := [(7, .int b), (6, .int 4), (0, .ref 448), (1, .int a), (2, .int b), (3, .int c), (4, .int e), (5, .int f)]) (st1 := [.int 5, .ref 448]) rfl ?_
  refine q_s_put x_40_106 (pc1 := 109) rfl (ci := 12) (k := 2) (ns := 0) (by decide +kernel) (q_ob (m_F0 hG 4 ((4, ((b >>> (24 &&& 31)) &&& 255)) :: L)) rfl) (by decide +kernel) (m_Fs _ 5 _) ?_
  refine q_sg x_40_109 rfl rfl (pc1 := 112) (lv1 := [(6, .int 5), (7, .int b), (0, .ref 448), (1, .int a), (2, .int b), (3, .int c), (4, .int e), (5, .int f)]) (st1 := []) rfl ?_
  refine q_sg x_40_112 rfl rfl (pc1 := 18) (lv1 := [(6, .int 5), (7, .int b), (0, .ref 448), (1, .int a), (2, .int b), (3, .int c), (4, .int e), (5, .int f)]) (st1 := []) rfl ?_
  exact kk
theorem m_turn5 {G : q_H} (hG : 264 ≤ G.length) {a b c e f : Int32} {L : List (Nat × Int32)} {d n : Nat} (kk : ∀ L1, ∃ E1, q_run (q_callf 4000 d) (q_own 40) (q_maxL 40) (q_ini 40) (q_code 40) (q_ret 40) n 18 [(6, .int 6), (7, .int b), (0, .ref 448), (1, .int a), (2, .int b), (3, .int c), (4, .int e), (5, .int f)] [] (m_F G 6 L1) 0 0 = some (some (.int 20), E1, 0, 0)) : ∃ E1, q_run (q_callf 4000 d) (q_own 40) (q_maxL 40) (q_ini 40) (q_code 40) (q_ret 40) (n + 36) 18 [(6, .int 5), (7, .int b), (0, .ref 448), (1, .int a), (2, .int b), (3, .int c), (4, .int e), (5, .int f)] [] (m_F G 5 L) 0 0 = some (some (.int 20), E1, 0, 0) := by
  obtain ⟨E1, kk⟩ := kk ((5, ((b >>> (16 &&& 31)) &&& 255)) :: L)
  refine ⟨E1, ?_⟩
  refine q_sg x_40_18 rfl rfl (pc1 := 20) (lv1 := [(6, .int 5), (7, .int b), (0, .ref 448), (1, .int a), (2, .int b), (3, .int c), (4, .int e), (5, .int f)]) (st1 := [.int 5]) rfl ?_
  refine q_sg x_40_20 rfl rfl (pc1 := 22) (lv1 := [(6, .int 5), (7, .int b), (0, .ref 448), (1, .int a), (2, .int b), (3, .int c), (4, .int e), (5, .int f)]) (st1 := [.int 20, .int 5]) rfl ?_
  refine q_sg x_40_22 rfl rfl (pc1 := 25) (lv1 := [(6, .int 5), (7, .int b), (0, .ref 448), (1, .int a), (2, .int b), (3, .int c), (4, .int e), (5, .int f)]) (st1 := []) rfl ?_
  refine q_sg x_40_25 rfl rfl (pc1 := 27) (lv1 := [(6, .int 5), (7, .int b), (0, .ref 448), (1, .int a), (2, .int b), (3, .int c), (4, .int e), (5, .int f)]) (st1 := [.int 5]) rfl ?_
  refine q_sg x_40_27 rfl rfl (pc1 := 28) (lv1 := [(6, .int 5), (7, .int b), (0, .ref 448), (1, .int a), (2, .int b), (3, .int c), (4, .int e), (5, .int f)]) (st1 := [.int 4, .int 5]) rfl ?_
  refine q_sg x_40_28 rfl rfl (pc1 := 35) (lv1 := [(6, .int 5), (7, .int b), (0, .ref 448), (1, .int a), (2, .int b), (3, .int c), (4, .int e), (5, .int f)]) (st1 := []) rfl ?_
  refine q_sg x_40_35 rfl rfl (pc1 := 37) (lv1 := [(6, .int 5), (7, .int b), (0, .ref 448), (1, .int a), (2, .int b), (3, .int c), (4, .int e), (5, .int f)]) (st1 := [.int 5]) rfl ?_
  refine q_sg x_40_37 rfl rfl (pc1 := 39) (lv1 := [(6, .int 5), (7, .int b), (0, .ref 448), (1, .int a), (2, .int b), (3, .int c), (4, .int e), (5, .int f)]) (st1 := [.int 8, .int 5]) rfl ?_
  refine q_sg x_40_39 rfl rfl (pc1 := 42) (lv1 := [(6, .int 5), (7, .int b), (0, .ref 448), (1, .int a), (2, .int b), (3, .int c), (4, .int e), (5, .int f)]) (st1 := []) rfl ?_
  refine q_sg x_40_42 rfl rfl (pc1 := 43) (lv1 := [(6, .int 5), (7, .int b), (0, .ref 448), (1, .int a), (2, .int b), (3, .int c), (4, .int e), (5, .int f)]) (st1 := [.int b]) rfl ?_
  refine q_sg x_40_43 rfl rfl (pc1 := 71) (lv1 := [(6, .int 5), (7, .int b), (0, .ref 448), (1, .int a), (2, .int b), (3, .int c), (4, .int e), (5, .int f)]) (st1 := [.int b]) rfl ?_
  refine q_sg x_40_71 rfl rfl (pc1 := 73) (lv1 := [(7, .int b), (6, .int 5), (0, .ref 448), (1, .int a), (2, .int b), (3, .int c), (4, .int e), (5, .int f)]) (st1 := []) rfl ?_
  refine q_sg x_40_73 rfl rfl (pc1 := 74) (lv1 := [(7, .int b), (6, .int 5), (0, .ref 448), (1, .int a), (2, .int b), (3, .int c), (4, .int e), (5, .int f)]) (st1 := [.ref 448]) rfl ?_
  refine q_s_get x_40_74 rfl (pc1 := 77) rfl (ci := 12) (k := 1) (ns := 0) (by decide +kernel) (q_ob (m_F0 hG 5 L) rfl) (v := .ref 452) rfl ?_
  refine q_sg x_40_77 rfl rfl (pc1 := 78) (lv1 := [(7, .int b), (6, .int 5), (0, .ref 448), (1, .int a), (2, .int b), (3, .int c), (4, .int e), (5, .int f)]) (st1 := [.ref 448, .ref 452]) rfl ?_
  refine q_s_get x_40_78 rfl (pc1 := 81) rfl (ci := 12) (k := 2) (ns := 0) (by decide +kernel) (q_ob (m_F0 hG 5 L) rfl) (v := .int 5) rfl ?_
  refine q_sg x_40_81 rfl rfl (pc1 := 83) (lv1 := [(7, .int b), (6, .int 5), (0, .ref 448), (1, .int a), (2, .int b), (3, .int c), (4, .int e), (5, .int f)]) (st1 := [.int b, .int 5, .ref 452]) rfl ?_
  refine q_sg x_40_83 rfl rfl (pc1 := 85) (lv1 := [(7, .int b), (6, .int 5), (0, .ref 448), (1, .int a), (2, .int b), (3, .int c), (4, .int e), (5, .int f)]) (st1 := [.int 24, .int b, .int 5, .ref 452]) rfl ?_
  refine q_sg x_40_85 rfl rfl (pc1 := 87) (lv1 := [(7, .int b), (6, .int 5), (0, .ref 448), (1, .int a), (2, .int b), (3, .int c), (4, .int e), (5, .int f)]) (st1 := [.int 8, .int 24, .int b, .int 5, .ref 452]) rfl ?_
  refine q_sg x_40_87 rfl rfl (pc1 := 89) (lv1 := [(7, .int b), (6, .int 5), (0, .ref 448), (1, .int a), (2, .int b), (3, .int c), (4, .int e), (5, .int f)]) (st1 := [.int 5, .int 8, .int 24, .int b, .int 5, .ref 452]) rfl ?_
  refine q_sg x_40_89 rfl rfl (pc1 := 90) (lv1 := [(7, .int b), (6, .int 5), (0, .ref 448), (1, .int a), (2, .int b), (3, .int c), (4, .int e), (5, .int f)]) (st1 := [.int 4, .int 5, .int 8, .int 24, .int b, .int 5, .ref 452]) rfl ?_
  refine q_sg x_40_90 rfl rfl (pc1 := 91) (lv1 := [(7, .int b), (6, .int 5), (0, .ref 448), (1, .int a), (2, .int b), (3, .int c), (4, .int e), (5, .int f)]) (st1 := [.int 1, .int 8, .int 24, .int b, .int 5, .ref 452]) rfl ?_
  refine q_sg x_40_91 rfl rfl (pc1 := 92) (lv1 := [(7, .int b), (6, .int 5), (0, .ref 448), (1, .int a), (2, .int b), (3, .int c), (4, .int e), (5, .int f)]) (st1 := [.int 8, .int 24, .int b, .int 5, .ref 452]) rfl ?_
  refine q_sg x_40_92 rfl rfl (pc1 := 93) (lv1 := [(7, .int b), (6, .int 5), (0, .ref 448), (1, .int a), (2, .int b), (3, .int c), (4, .int e), (5, .int f)]) (st1 := [.int 16, .int b, .int 5, .ref 452]) rfl ?_
  refine q_sg x_40_93 rfl rfl (pc1 := 94) (lv1 := [(7, .int b), (6, .int 5), (0, .ref 448), (1, .int a), (2, .int b), (3, .int c), (4, .int e), (5, .int f)]) (st1 := [.int (b >>> (16 &&& 31)), .int 5, .ref 452]) rfl ?_
  refine q_sg x_40_94 rfl rfl (pc1 := 97) (lv1 := [(7, .int b), (6, .int 5), (0, .ref 448), (1, .int a), (2, .int b), (3, .int c), (4, .int e), (5, .int f)]) (st1 := [.int 255, .int (b >>> (16 &&& 31)), .int 5, .ref 452]) rfl ?_
  refine q_sg x_40_97 rfl rfl (pc1 := 98) (lv1 := [(7, .int b), (6, .int 5), (0, .ref 448), (1, .int a), (2, .int b), (3, .int c), (4, .int e), (5, .int f)]) (st1 := [.int ((b >>> (16 &&& 31)) &&& 255), .int 5, .ref 452]) rfl ?_
  refine q_s_ias x_40_98 (pc1 := 99) rfl (q_ar (m_F1 hG 5 L) rfl) (by decide +kernel) (j := 5) rfl (m_Fa _ _ ((5, ((b >>> (16 &&& 31)) &&& 255)) :: L)) ?_
  refine q_sg x_40_99 rfl rfl (pc1 := 100) (lv1 := [(7, .int b), (6, .int 5), (0, .ref 448), (1, .int a), (2, .int b), (3, .int c), (4, .int e), (5, .int f)]) (st1 := [.ref 448]) rfl ?_
  refine q_sg x_40_100 rfl rfl (pc1 := 101) (lv1 := [(7, .int b), (6, .int 5), (0, .ref 448), (1, .int a), (2, .int b), (3, .int c), (4, .int e), (5, .int f)]) (st1 := [.ref 448, .ref 448]) rfl ?_
  refine q_s_get x_40_101 rfl (pc1 := 104) rfl (ci := 12) (k := 2) (ns := 0) (by decide +kernel) (q_ob (m_F0 hG 5 ((5, ((b >>> (16 &&& 31)) &&& 255)) :: L)) rfl) (v := .int 5) rfl ?_
  refine q_sg x_40_104 rfl rfl (pc1 := 105) (lv1 := [(7, .int b), (6, .int 5), (0, .ref 448), (1, .int a), (2, .int b), (3, .int c), (4, .int e), (5, .int f)]) (st1 := [.int 1, .int 5, .ref 448]) rfl ?_
  refine q_sg x_40_105 rfl rfl (pc1 := 106) (lv1 := [(7, .int b), (6, .int 5), (0, .ref 448), (1, .int a), (2, .int b), (3, .int c), (4, .int e), (5, .int f)]) (st1 := [.int 6, .ref 448]) rfl ?_
  refine q_s_put x_40_106 (pc1 := 109) rfl (ci := 12) (k := 2) (ns := 0) (by decide +kernel) (q_ob (m_F0 hG 5 ((5, ((b >>> (16 &&& 31)) &&& 255)) :: L)) rfl) (by decide +kernel) (m_Fs _ 6 _) ?_
  refine q_sg x_40_109 rfl rfl (pc1 := 112) (lv1 := [(6, .int 6), (7, .int b), (0, .ref 448), (1, .int a), (2, .int b), (3, .int c), (4, .int e), (5, .int f)]) (st1 := []) rfl ?_
  refine q_sg x_40_112 rfl rfl (pc1 := 18) (lv1 := [(6, .int 6), (7, .int b), (0, .ref 448), (1, .int a), (2, .int b), (3, .int c), (4, .int e), (5, .int f)]) (st1 := []) rfl ?_
  exact kk
theorem m_turn6 {G : q_H} (hG : 264 ≤ G.length) {a b c e f : Int32} {L : List (Nat × Int32)} {d n : Nat} (kk : ∀ L1, ∃ E1, q_run (q_callf 4000 d) (q_own 40) (q_maxL 40) (q_ini 40) (q_code 40) (q_ret 40) n 18 [(6, .int 7), (7, .int b), (0, .ref 448), (1, .int a), (2, .int b), (3, .int c), (4, .int e), (5, .int f)] [] (m_F G 7 L1) 0 0 = some (some (.int 20), E1, 0, 0)) : ∃ E1, q_run (q_callf 4000 d) (q_own 40) (q_maxL 40) (q_ini 40) (q_code 40) (q_ret 40) (n + 36) 18 [(6, .int 6), (7, .int b), (0, .ref 448), (1, .int a), (2, .int b), (3, .int c), (4, .int e), (5, .int f)] [] (m_F G 6 L) 0 0 = some (some (.int 20), E1, 0, 0) := by
  obtain ⟨E1, kk⟩ := kk ((6, ((b >>> (8 &&& 31)) &&& 255)) :: L)
  refine ⟨E1, ?_⟩
  refine q_sg x_40_18 rfl rfl (pc1 := 20) (lv1 := [(6, .int 6), (7, .int b), (0, .ref 448), (1, .int a), (2, .int b), (3, .int c), (4, .int e), (5, .int f)]) (st1 := [.int 6]) rfl ?_
  refine q_sg x_40_20 rfl rfl (pc1 := 22) (lv1 := [(6, .int 6), (7, .int b), (0, .ref 448), (1, .int a), (2, .int b), (3, .int c), (4, .int e), (5, .int f)]) (st1 := [.int 20, .int 6]) rfl ?_
  refine q_sg x_40_22 rfl rfl (pc1 := 25) (lv1 := [(6, .int 6), (7, .int b), (0, .ref 448), (1, .int a), (2, .int b), (3, .int c), (4, .int e), (5, .int f)]) (st1 := []) rfl ?_
  refine q_sg x_40_25 rfl rfl (pc1 := 27) (lv1 := [(6, .int 6), (7, .int b), (0, .ref 448), (1, .int a), (2, .int b), (3, .int c), (4, .int e), (5, .int f)]) (st1 := [.int 6]) rfl ?_
  refine q_sg x_40_27 rfl rfl (pc1 := 28) (lv1 := [(6, .int 6), (7, .int b), (0, .ref 448), (1, .int a), (2, .int b), (3, .int c), (4, .int e), (5, .int f)]) (st1 := [.int 4, .int 6]) rfl ?_
  refine q_sg x_40_28 rfl rfl (pc1 := 35) (lv1 := [(6, .int 6), (7, .int b), (0, .ref 448), (1, .int a), (2, .int b), (3, .int c), (4, .int e), (5, .int f)]) (st1 := []) rfl ?_
  refine q_sg x_40_35 rfl rfl (pc1 := 37) (lv1 := [(6, .int 6), (7, .int b), (0, .ref 448), (1, .int a), (2, .int b), (3, .int c), (4, .int e), (5, .int f)]) (st1 := [.int 6]) rfl ?_
  refine q_sg x_40_37 rfl rfl (pc1 := 39) (lv1 := [(6, .int 6), (7, .int b), (0, .ref 448), (1, .int a), (2, .int b), (3, .int c), (4, .int e), (5, .int f)]) (st1 := [.int 8, .int 6]) rfl ?_
  refine q_sg x_40_39 rfl rfl (pc1 := 42) (lv1 := [(6, .int 6), (7, .int b), (0, .ref 448), (1, .int a), (2, .int b), (3, .int c), (4, .int e), (5, .int f)]) (st1 := []) rfl ?_
  refine q_sg x_40_42 rfl rfl (pc1 := 43) (lv1 := [(6, .int 6), (7, .int b), (0, .ref 448), (1, .int a), (2, .int b), (3, .int c), (4, .int e), (5, .int f)]) (st1 := [.int b]) rfl ?_
  refine q_sg x_40_43 rfl rfl (pc1 := 71) (lv1 := [(6, .int 6), (7, .int b), (0, .ref 448), (1, .int a), (2, .int b), (3, .int c), (4, .int e), (5, .int f)]) (st1 := [.int b]) rfl ?_
  refine q_sg x_40_71 rfl rfl (pc1 := 73) (lv1 := [(7, .int b), (6, .int 6), (0, .ref 448), (1, .int a), (2, .int b), (3, .int c), (4, .int e), (5, .int f)]) (st1 := []) rfl ?_
  refine q_sg x_40_73 rfl rfl (pc1 := 74) (lv1 := [(7, .int b), (6, .int 6), (0, .ref 448), (1, .int a), (2, .int b), (3, .int c), (4, .int e), (5, .int f)]) (st1 := [.ref 448]) rfl ?_
  refine q_s_get x_40_74 rfl (pc1 := 77) rfl (ci := 12) (k := 1) (ns := 0) (by decide +kernel) (q_ob (m_F0 hG 6 L) rfl) (v := .ref 452) rfl ?_
  refine q_sg x_40_77 rfl rfl (pc1 := 78) (lv1 := [(7, .int b), (6, .int 6), (0, .ref 448), (1, .int a), (2, .int b), (3, .int c), (4, .int e), (5, .int f)]) (st1 := [.ref 448, .ref 452]) rfl ?_
  refine q_s_get x_40_78 rfl (pc1 := 81) rfl (ci := 12) (k := 2) (ns := 0) (by decide +kernel) (q_ob (m_F0 hG 6 L) rfl) (v := .int 6) rfl ?_
  refine q_sg x_40_81 rfl rfl (pc1 := 83) (lv1 := [(7, .int b), (6, .int 6), (0, .ref 448), (1, .int a), (2, .int b), (3, .int c), (4, .int e), (5, .int f)]) (st1 := [.int b, .int 6, .ref 452]) rfl ?_
  refine q_sg x_40_83 rfl rfl (pc1 := 85) (lv1 := [(7, .int b), (6, .int 6), (0, .ref 448), (1, .int a), (2, .int b), (3, .int c), (4, .int e), (5, .int f)]) (st1 := [.int 24, .int b, .int 6, .ref 452]) rfl ?_
  refine q_sg x_40_85 rfl rfl (pc1 := 87) (lv1 := [(7, .int b), (6, .int 6), (0, .ref 448), (1, .int a), (2, .int b), (3, .int c), (4, .int e), (5, .int f)]) (st1 := [.int 8, .int 24, .int b, .int 6, .ref 452]) rfl ?_
  refine q_sg x_40_87 rfl rfl (pc1 := 89) (lv1 := [(7, .int b), (6, .int 6), (0, .ref 448), (1, .int a), (2, .int b), (3, .int c), (4, .int e), (5, .int f)]) (st1 := [.int 6, .int 8, .int 24, .int b, .int 6, .ref 452]) rfl ?_
  refine q_sg x_40_89 rfl rfl (pc1 := 90) (lv1 := [(7, .int b), (6, .int 6), (0, .ref 448), (1, .int a), (2, .int b), (3, .int c), (4, .int e), (5, .int f)]) (st1 := [.int 4, .int 6, .int 8, .int 24, .int b, .int 6, .ref 452]) rfl ?_
  refine q_sg x_40_90 rfl rfl (pc1 := 91) (lv1 := [(7, .int b), (6, .int 6), (0, .ref 448), (1, .int a), (2, .int b), (3, .int c), (4, .int e), (5, .int f)]) (st1 := [.int 2, .int 8, .int 24, .int b, .int 6, .ref 452]) rfl ?_
  refine q_sg x_40_91 rfl rfl (pc1 := 92) (lv1 := [(7, .int b), (6, .int 6), (0, .ref 448), (1, .int a), (2, .int b), (3, .int c), (4, .int e), (5, .int f)]) (st1 := [.int 16, .int 24, .int b, .int 6, .ref 452]) rfl ?_
  refine q_sg x_40_92 rfl rfl (pc1 := 93) (lv1 := [(7, .int b), (6, .int 6), (0, .ref 448), (1, .int a), (2, .int b), (3, .int c), (4, .int e), (5, .int f)]) (st1 := [.int 8, .int b, .int 6, .ref 452]) rfl ?_
  refine q_sg x_40_93 rfl rfl (pc1 := 94) (lv1 := [(7, .int b), (6, .int 6), (0, .ref 448), (1, .int a), (2, .int b), (3, .int c), (4, .int e), (5, .int f)]) (st1 := [.int (b >>> (8 &&& 31)), .int 6, .ref 452]) rfl ?_
  refine q_sg x_40_94 rfl rfl (pc1 := 97) (lv1 := [(7, .int b), (6, .int 6), (0, .ref 448), (1, .int a), (2, .int b), (3, .int c), (4, .int e), (5, .int f)]) (st1 := [.int 255, .int (b >>> (8 &&& 31)), .int 6, .ref 452]) rfl ?_
  refine q_sg x_40_97 rfl rfl (pc1 := 98) (lv1 := [(7, .int b), (6, .int 6), (0, .ref 448), (1, .int a), (2, .int b), (3, .int c), (4, .int e), (5, .int f)]) (st1 := [.int ((b >>> (8 &&& 31)) &&& 255), .int 6, .ref 452]) rfl ?_
  refine q_s_ias x_40_98 (pc1 := 99) rfl (q_ar (m_F1 hG 6 L) rfl) (by decide +kernel) (j := 6) rfl (m_Fa _ _ ((6, ((b >>> (8 &&& 31)) &&& 255)) :: L)) ?_
  refine q_sg x_40_99 rfl rfl (pc1 := 100) (lv1 := [(7, .int b), (6, .int 6), (0, .ref 448), (1, .int a), (2, .int b), (3, .int c), (4, .int e), (5, .int f)]) (st1 := [.ref 448]) rfl ?_
  refine q_sg x_40_100 rfl rfl (pc1 := 101) (lv1 := [(7, .int b), (6, .int 6), (0, .ref 448), (1, .int a), (2, .int b), (3, .int c), (4, .int e), (5, .int f)]) (st1 := [.ref 448, .ref 448]) rfl ?_
  refine q_s_get x_40_101 rfl (pc1 := 104) rfl (ci := 12) (k := 2) (ns := 0) (by decide +kernel) (q_ob (m_F0 hG 6 ((6, ((b >>> (8 &&& 31)) &&& 255)) :: L)) rfl) (v := .int 6) rfl ?_
  refine q_sg x_40_104 rfl rfl (pc1 := 105) (lv1 := [(7, .int b), (6, .int 6), (0, .ref 448), (1, .int a), (2, .int b), (3, .int c), (4, .int e), (5, .int f)]) (st1 := [.int 1, .int 6, .ref 448]) rfl ?_
  refine q_sg x_40_105 rfl rfl (pc1 := 106) (lv1 := [(7, .int b), (6, .int 6), (0, .ref 448), (1, .int a), (2, .int b), (3, .int c), (4, .int e), (5, .int f)]) (st1 := [.int 7, .ref 448]) rfl ?_
  refine q_s_put x_40_106 (pc1 := 109) rfl (ci := 12) (k := 2) (ns := 0) (by decide +kernel) (q_ob (m_F0 hG 6 ((6, ((b >>> (8 &&& 31)) &&& 255)) :: L)) rfl) (by decide +kernel) (m_Fs _ 7 _) ?_
  refine q_sg x_40_109 rfl rfl (pc1 := 112) (lv1 := [(6, .int 7), (7, .int b), (0, .ref 448), (1, .int a), (2, .int b), (3, .int c), (4, .int e), (5, .int f)]) (st1 := []) rfl ?_
  refine q_sg x_40_112 rfl rfl (pc1 := 18) (lv1 := [(6, .int 7), (7, .int b), (0, .ref 448), (1, .int a), (2, .int b), (3, .int c), (4, .int e), (5, .int f)]) (st1 := []) rfl ?_
  exact kk
theorem m_turn7 {G : q_H} (hG : 264 ≤ G.length) {a b c e f : Int32} {L : List (Nat × Int32)} {d n : Nat} (kk : ∀ L1, ∃ E1, q_run (q_callf 4000 d) (q_own 40) (q_maxL 40) (q_ini 40) (q_code 40) (q_ret 40) n 18 [(6, .int 8), (7, .int b), (0, .ref 448), (1, .int a), (2, .int b), (3, .int c), (4, .int e), (5, .int f)] [] (m_F G 8 L1) 0 0 = some (some (.int 20), E1, 0, 0)) : ∃ E1, q_run (q_callf 4000 d) (q_own 40) (q_maxL 40) (q_ini 40) (q_code 40) (q_ret 40) (n + 36) 18 [(6, .int 7), (7, .int b), (0, .ref 448), (1, .int a), (2, .int b), (3, .int c), (4, .int e), (5, .int f)] [] (m_F G 7 L) 0 0 = some (some (.int 20), E1, 0, 0) := by
  obtain ⟨E1, kk⟩ := kk ((7, ((b >>> (0 &&& 31)) &&& 255)) :: L)
  refine ⟨E1, ?_⟩
  refine q_sg x_40_18 rfl rfl (pc1 := 20) (lv1 := [(6, .int 7), (7, .int b), (0, .ref 448), (1, .int a), (2, .int b), (3, .int c), (4, .int e), (5, .int f)]) (st1 := [.int 7]) rfl ?_
  refine q_sg x_40_20 rfl rfl (pc1 := 22) (lv1 := [(6, .int 7), (7, .int b), (0, .ref 448), (1, .int a), (2, .int b), (3, .int c), (4, .int e), (5, .int f)]) (st1 := [.int 20, .int 7]) rfl ?_
  refine q_sg x_40_22 rfl rfl (pc1 := 25) (lv1 := [(6, .int 7), (7, .int b), (0, .ref 448), (1, .int a), (2, .int b), (3, .int c), (4, .int e), (5, .int f)]) (st1 := []) rfl ?_
  refine q_sg x_40_25 rfl rfl (pc1 := 27) (lv1 := [(6, .int 7), (7, .int b), (0, .ref 448), (1, .int a), (2, .int b), (3, .int c), (4, .int e), (5, .int f)]) (st1 := [.int 7]) rfl ?_
  refine q_sg x_40_27 rfl rfl (pc1 := 28) (lv1 := [(6, .int 7), (7, .int b), (0, .ref 448), (1, .int a), (2, .int b), (3, .int c), (4, .int e), (5, .int f)]) (st1 := [.int 4, .int 7]) rfl ?_
  refine q_sg x_40_28 rfl rfl (pc1 := 35) (lv1 := [(6, .int 7), (7, .int b), (0, .ref 448), (1, .int a), (2, .int b), (3, .int c), (4, .int e), (5, .int f)]) (st1 := []) rfl ?_
  refine q_sg x_40_35 rfl rfl (pc1 := 37) (lv1 := [(6, .int 7), (7, .int b), (0, .ref 448), (1, .int a), (2, .int b), (3, .int c), (4, .int e), (5, .int f)]) (st1 := [.int 7]) rfl ?_
  refine q_sg x_40_37 rfl rfl (pc1 := 39) (lv1 := [(6, .int 7), (7, .int b), (0, .ref 448), (1, .int a), (2, .int b), (3, .int c), (4, .int e), (5, .int f)]) (st1 := [.int 8, .int 7]) rfl ?_
  refine q_sg x_40_39 rfl rfl (pc1 := 42) (lv1 := [(6, .int 7), (7, .int b), (0, .ref 448), (1, .int a), (2, .int b), (3, .int c), (4, .int e), (5, .int f)]) (st1 := []) rfl ?_
  refine q_sg x_40_42 rfl rfl (pc1 := 43) (lv1 := [(6, .int 7), (7, .int b), (0, .ref 448), (1, .int a), (2, .int b), (3, .int c), (4, .int e), (5, .int f)]) (st1 := [.int b]) rfl ?_
  refine q_sg x_40_43 rfl rfl (pc1 := 71) (lv1 := [(6, .int 7), (7, .int b), (0, .ref 448), (1, .int a), (2, .int b), (3, .int c), (4, .int e), (5, .int f)]) (st1 := [.int b]) rfl ?_
  refine q_sg x_40_71 rfl rfl (pc1 := 73) (lv1 := [(7, .int b), (6, .int 7), (0, .ref 448), (1, .int a), (2, .int b), (3, .int c), (4, .int e), (5, .int f)]) (st1 := []) rfl ?_
  refine q_sg x_40_73 rfl rfl (pc1 := 74) (lv1 := [(7, .int b), (6, .int 7), (0, .ref 448), (1, .int a), (2, .int b), (3, .int c), (4, .int e), (5, .int f)]) (st1 := [.ref 448]) rfl ?_
  refine q_s_get x_40_74 rfl (pc1 := 77) rfl (ci := 12) (k := 1) (ns := 0) (by decide +kernel) (q_ob (m_F0 hG 7 L) rfl) (v := .ref 452) rfl ?_
  refine q_sg x_40_77 rfl rfl (pc1 := 78) (lv1 := [(7, .int b), (6, .int 7), (0, .ref 448), (1, .int a), (2, .int b), (3, .int c), (4, .int e), (5, .int f)]) (st1 := [.ref 448, .ref 452]) rfl ?_
  refine q_s_get x_40_78 rfl (pc1 := 81) rfl (ci := 12) (k := 2) (ns := 0) (by decide +kernel) (q_ob (m_F0 hG 7 L) rfl) (v := .int 7) rfl ?_
  refine q_sg x_40_81 rfl rfl (pc1 := 83) (lv1 := [(7, .int b), (6, .int 7), (0, .ref 448), (1, .int a), (2, .int b), (3, .int c), (4, .int e), (5, .int f)]) (st1 := [.int b, .int 7, .ref 452]) rfl ?_
  refine q_sg x_40_83 rfl rfl (pc1 := 85) (lv1 := [(7, .int b), (6, .int 7), (0, .ref 448), (1, .int a), (2, .int b), (3, .int c), (4, .int e), (5, .int f)]) (st1 := [.int 24, .int b, .int 7, .ref 452]) rfl ?_
  refine q_sg x_40_85 rfl rfl (pc1 := 87) (lv1 := [(7, .int b), (6, .int 7), (0, .ref 448), (1, .int a), (2, .int b), (3, .int c), (4, .int e), (5, .int f)]) (st1 := [.int 8, .int 24, .int b, .int 7, .ref 452]) rfl ?_
  refine q_sg x_40_87 rfl rfl (pc1 := 89) (lv1 := [(7, .int b), (6, .int 7), (0, .ref 448), (1, .int a), (2, .int b), (3, .int c), (4, .int e), (5, .int f)]) (st1 := [.int 7, .int 8, .int 24, .int b, .int 7, .ref 452]) rfl ?_
  refine q_sg x_40_89 rfl rfl (pc1 := 90) (lv1 := [(7, .int b), (6, .int 7), (0, .ref 448), (1, .int a), (2, .int b), (3, .int c), (4, .int e), (5, .int f)]) (st1 := [.int 4, .int 7, .int 8, .int 24, .int b, .int 7, .ref 452]) rfl ?_
  refine q_sg x_40_90 rfl rfl (pc1 := 91) (lv1 := [(7, .int b), (6, .int 7), (0, .ref 448), (1, .int a), (2, .int b), (3, .int c), (4, .int e), (5, .int f)]) (st1 := [.int 3, .int 8, .int 24, .int b, .int 7, .ref 452]) rfl ?_
  refine q_sg x_40_91 rfl rfl (pc1 := 92) (lv1 := [(7, .int b), (6, .int 7), (0, .ref 448), (1, .int a), (2, .int b), (3, .int c), (4, .int e), (5, .int f)]) (st1 := [.int 24, .int 24, .int b, .int 7, .ref 452]) rfl ?_
  refine q_sg x_40_92 rfl rfl (pc1 := 93) (lv1 := [(7, .int b), (6, .int 7), (0, .ref 448), (1, .int a), (2, .int b), (3, .int c), (4, .int e), (5, .int f)]) (st1 := [.int 0, .int b, .int 7, .ref 452]) rfl ?_
  refine q_sg x_40_93 rfl rfl (pc1 := 94) (lv1 := [(7, .int b), (6, .int 7), (0, .ref 448), (1, .int a), (2, .int b), (3, .int c), (4, .int e), (5, .int f)]) (st1 := [.int (b >>> (0 &&& 31)), .int 7, .ref 452]) rfl ?_
  refine q_sg x_40_94 rfl rfl (pc1 := 97) (lv1 := [(7, .int b), (6, .int 7), (0, .ref 448), (1, .int a), (2, .int b), (3, .int c), (4, .int e), (5, .int f)]) (st1 := [.int 255, .int (b >>> (0 &&& 31)), .int 7, .ref 452]) rfl ?_
  refine q_sg x_40_97 rfl rfl (pc1 := 98) (lv1 := [(7, .int b), (6, .int 7), (0, .ref 448), (1, .int a), (2, .int b), (3, .int c), (4, .int e), (5, .int f)]) (st1 := [.int ((b >>> (0 &&& 31)) &&& 255), .int 7, .ref 452]) rfl ?_
  refine q_s_ias x_40_98 (pc1 := 99) rfl (q_ar (m_F1 hG 7 L) rfl) (by decide +kernel) (j := 7) rfl (m_Fa _ _ ((7, ((b >>> (0 &&& 31)) &&& 255)) :: L)) ?_
  refine q_sg x_40_99 rfl rfl (pc1 := 100) (lv1 := [(7, .int b), (6, .int 7), (0, .ref 448), (1, .int a), (2, .int b), (3, .int c), (4, .int e), (5, .int f)]) (st1 := [.ref 448]) rfl ?_
  refine q_sg x_40_100 rfl rfl (pc1 := 101) (lv1 := [(7, .int b), (6, .int 7), (0, .ref 448), (1, .int a), (2, .int b), (3, .int c), (4, .int e), (5, .int f)]) (st1 := [.ref 448, .ref 448]) rfl ?_
  refine q_s_get x_40_101 rfl (pc1 := 104) rfl (ci := 12) (k := 2) (ns := 0) (by decide +kernel) (q_ob (m_F0 hG 7 ((7, ((b >>> (0 &&& 31)) &&& 255)) :: L)) rfl) (v := .int 7) rfl ?_
  refine q_sg x_40_104 rfl rfl (pc1 := 105) (lv1 := [(7, .int b), (6, .int 7), (0, .ref 448), (1, .int a), (2, .int b), (3, .int c), (4, .int e), (5, .int f)]) (st1 := [.int 1, .int 7, .ref 448]) rfl ?_
  refine q_sg x_40_105 rfl rfl (pc1 := 106) (lv1 := [(7, .int b), (6, .int 7), (0, .ref 448), (1, .int a), (2, .int b), (3, .int c), (4, .int e), (5, .int f)]) (st1 := [.int 8, .ref 448]) rfl ?_
  refine q_s_put x_40_106 (pc1 := 109) rfl (ci := 12) (k := 2) (ns := 0) (by decide +kernel) (q_ob (m_F0 hG 7 ((7, ((b >>> (0 &&& 31)) &&& 255)) :: L)) rfl) (by decide +kernel) (m_Fs _ 8 _) ?_
  refine q_sg x_40_109 rfl rfl (pc1 := 112) (lv1 := [(6, .int 8), (7, .int b), (0, .ref 448), (1, .int a), (2, .int b), (3, .int c), (4, .int e), (5, .int f)]) (st1 := []) rfl ?_
  refine q_sg x_40_112 rfl rfl (pc1 := 18) (lv1 := [(6, .int 8), (7, .int b), (0, .ref 448), (1, .int a), (2, .int b), (3, .int c), (4, .int e), (5, .int f)]) (st1 := []) rfl ?_
  exact kk
theorem m_turn8 {G : q_H} (hG : 264 ≤ G.length) {a b c e f : Int32} {L : List (Nat × Int32)} {d n : Nat} (kk : ∀ L1, ∃ E1, q_run (q_callf 4000 d) (q_own 40) (q_maxL 40) (q_ini 40) (q_code 40) (q_ret 40) n 18 [(6, .int 9), (7, .int c), (0, .ref 448), (1, .int a), (2, .int b), (3, .int c), (4, .int e), (5, .int f)] [] (m_F G 9 L1) 0 0 = some (some (.int 20), E1, 0, 0)) : ∃ E1, q_run (q_callf 4000 d) (q_own 40) (q_maxL 40) (q_ini 40) (q_code 40) (q_ret 40) (n + 39) 18 [(6, .int 8), (7, .int b), (0, .ref 448), (1, .int a), (2, .int b), (3, .int c), (4, .int e), (5, .int f)] [] (m_F G 8 L) 0 0 = some (some (.int 20), E1, 0, 0) := by
  obtain ⟨E1, kk⟩ := kk ((8, ((c >>> (24 &&& 31)) &&& 255)) :: L)
  refine ⟨E1, ?_⟩
  refine q_sg x_40_18 rfl rfl (pc1 := 20) (lv1 := [(6, .int 8), (7, .int b), (0, .ref 448), (1, .int a), (2, .int b), (3, .int c), (4, .int e), (5, .int f)]) (st1 := [.int 8]) rfl ?_
  refine q_sg x_40_20 rfl rfl (pc1 := 22) (lv1 := [(6, .int 8), (7, .int b), (0, .ref 448), (1, .int a), (2, .int b), (3, .int c), (4, .int e), (5, .int f)]) (st1 := [.int 20, .int 8]) rfl ?_
  refine q_sg x_40_22 rfl rfl (pc1 := 25) (lv1 := [(6, .int 8), (7, .int b), (0, .ref 448), (1, .int a), (2, .int b), (3, .int c), (4, .int e), (5, .int f)]) (st1 := []) rfl ?_
  refine q_sg x_40_25 rfl rfl (pc1 := 27) (lv1 := [(6, .int 8), (7, .int b), (0, .ref 448), (1, .int a), (2, .int b), (3, .int c), (4, .int e), (5, .int f)]) (st1 := [.int 8]) rfl ?_
  refine q_sg x_40_27 rfl rfl (pc1 := 28) (lv1 := [(6, .int 8), (7, .int b), (0, .ref 448), (1, .int a), (2, .int b), (3, .int c), (4, .int e), (5, .int f)]) (st1 := [.int 4, .int 8]) rfl ?_
  refine q_sg x_40_28 rfl rfl (pc1 := 35) (lv1 := [(6, .int 8), (7, .int b), (0, .ref 448), (1, .int a), (2, .int b), (3, .int c), (4, .int e), (5, .int f)]) (st1 := []) rfl ?_
  refine q_sg x_40_35 rfl rfl (pc1 := 37) (lv1 := [(6, .int 8), (7, .int b), (0, .ref 448), (1, .int a), (2, .int b), (3, .int c), (4, .int e), (5, .int f)]) (st1 := [.int 8]) rfl ?_
  refine q_sg x_40_37 rfl rfl (pc1 := 39) (lv1 := [(6, .int 8), (7, .int b), (0, .ref 448), (1, .int a), (2, .int b), (3, .int c), (4, .int e), (5, .int f)]) (st1 := [.int 8, .int 8]) rfl ?_
  refine q_sg x_40_39 rfl rfl (pc1 := 46) (lv1 := [(6, .int 8), (7, .int b), (0, .ref 448), (1, .int a), (2, .int b), (3, .int c), (4, .int e), (5, .int f)]) (st1 := []) rfl ?_
  refine q_sg x_40_46 rfl rfl (pc1 := 48) (lv1 := [(6, .int 8), (7, .int b), (0, .ref 448), (1, .int a), (2, .int b), (3, .int c), (4, .int e), (5, .int f)]) (st1 := [.int 8]) rfl ?_
  refine q_sg x_40_48 rfl rfl (pc1 := 50) (lv1 := [(6, .int 8), (7, .int b), (0, .ref 448), (1, .int a), (2, .int b), (3, .int c), (4, .int e), (5, .int f)]) (st1 := [.int 12, .int 8]) rfl ?_
  refine q_sg x_40_50 rfl rfl (pc1 := 53) (lv1 := [(6, .int 8), (7, .int b), (0, .ref 448), (1, .int a), (2, .int b), (3, .int c), (4, .int e), (5, .int f)]) (st1 := []) rfl ?_
  refine q_sg x_40_53 rfl rfl (pc1 := 54) (lv1 := [(6, .int 8), (7, .int b), (0, .ref 448), (1, .int a), (2, .int b), (3, .int c), (4, .int e), (5, .int f)]) (st1 := [.int c]) rfl ?_
  refine q_sg x_40_54 rfl rfl (pc1 := 71) (lv1 := [(6, .int 8), (7, .int b), (0, .ref 448), (1, .int a), (2, .int b), (3, .int c), (4, .int e), (5, .int f)]) (st1 := [.int c]) rfl ?_
  refine q_sg x_40_71 rfl rfl (pc1 := 73) (lv1 := [(7, .int c), (6, .int 8), (0, .ref 448), (1, .int a), (2, .int b), (3, .int c), (4, .int e), (5, .int f)]) (st1 := []) rfl ?_
  refine q_sg x_40_73 rfl rfl (pc1 := 74) (lv1 := [(7, .int c), (6, .int 8), (0, .ref 448), (1, .int a), (2, .int b), (3, .int c), (4, .int e), (5, .int f)]) (st1 := [.ref 448]) rfl ?_
  refine q_s_get x_40_74 rfl (pc1 := 77) rfl (ci := 12) (k := 1) (ns := 0) (by decide +kernel) (q_ob (m_F0 hG 8 L) rfl) (v := .ref 452) rfl ?_
  refine q_sg x_40_77 rfl rfl (pc1 := 78) (lv1 := [(7, .int c), (6, .int 8), (0, .ref 448), (1, .int a), (2, .int b), (3, .int c), (4, .int e), (5, .int f)]) (st1 := [.ref 448, .ref 452]) rfl ?_
  refine q_s_get x_40_78 rfl (pc1 := 81) rfl (ci := 12) (k := 2) (ns := 0) (by decide +kernel) (q_ob (m_F0 hG 8 L) rfl) (v := .int 8) rfl ?_
  refine q_sg x_40_81 rfl rfl (pc1 := 83) (lv1 := [(7, .int c), (6, .int 8), (0, .ref 448), (1, .int a), (2, .int b), (3, .int c), (4, .int e), (5, .int f)]) (st1 := [.int c, .int 8, .ref 452]) rfl ?_
  refine q_sg x_40_83 rfl rfl (pc1 := 85) (lv1 := [(7, .int c), (6, .int 8), (0, .ref 448), (1, .int a), (2, .int b), (3, .int c), (4, .int e), (5, .int f)]) (st1 := [.int 24, .int c, .int 8, .ref 452]) rfl ?_
  refine q_sg x_40_85 rfl rfl (pc1 := 87) (lv1 := [(7, .int c), (6, .int 8), (0, .ref 448), (1, .int a), (2, .int b), (3, .int c), (4, .int e), (5, .int f)]) (st1 := [.int 8, .int 24, .int c, .int 8, .ref 452]) rfl ?_
  refine q_sg x_40_87 rfl rfl (pc1 := 89) (lv1 := [(7, .int c), (6, .int 8), (0, .ref 448), (1, .int a), (2, .int b), (3, .int c), (4, .int e), (5, .int f)]) (st1 := [.int 8, .int 8, .int 24, .int c, .int 8, .ref 452]) rfl ?_
  refine q_sg x_40_89 rfl rfl (pc1 := 90) (lv1 := [(7, .int c), (6, .int 8), (0, .ref 448), (1, .int a), (2, .int b), (3, .int c), (4, .int e), (5, .int f)]) (st1 := [.int 4, .int 8, .int 8, .int 24, .int c, .int 8, .ref 452]) rfl ?_
  refine q_sg x_40_90 rfl rfl (pc1 := 91) (lv1 := [(7, .int c), (6, .int 8), (0, .ref 448), (1, .int a), (2, .int b), (3, .int c), (4, .int e), (5, .int f)]) (st1 := [.int 0, .int 8, .int 24, .int c, .int 8, .ref 452]) rfl ?_
  refine q_sg x_40_91 rfl rfl (pc1 := 92) (lv1 := [(7, .int c), (6, .int 8), (0, .ref 448), (1, .int a), (2, .int b), (3, .int c), (4, .int e), (5, .int f)]) (st1 := [.int 0, .int 24, .int c, .int 8, .ref 452]) rfl ?_
  refine q_sg x_40_92 rfl rfl (pc1 := 93) (lv1 := [(7, .int c), (6, .int 8), (0, .ref 448), (1, .int a), (2, .int b), (3, .int c), (4, .int e), (5, .int f)]) (st1 := [.int 24, .int c, .int 8, .ref 452]) rfl ?_
  refine q_sg x_40_93 rfl rfl (pc1 := 94) (lv1 := [(7, .int c), (6, .int 8), (0, .ref 448), (1, .int a), (2, .int b), (3, .int c), (4, .int e), (5, .int f)]) (st1 := [.int (c >>> (24 &&& 31)), .int 8, .ref 452]) rfl ?_
  refine q_sg x_40_94 rfl rfl (pc1 := 97) (lv1 := [(7, .int c), (6, .int 8), (0, .ref 448), (1, .int a), (2, .int b), (3, .int c), (4, .int e), (5, .int f)]) (st1 := [.int 255, .int (c >>> (24 &&& 31)), .int 8, .ref 452]) rfl ?_
  refine q_sg x_40_97 rfl rfl (pc1 := 98) (lv1 := [(7, .int c), (6, .int 8), (0, .ref 448), (1, .int a), (2, .int b), (3, .int c), (4, .int e), (5, .int f)]) (st1 := [.int ((c >>> (24 &&& 31)) &&& 255), .int 8, .ref 452]) rfl ?_
  refine q_s_ias x_40_98 (pc1 := 99) rfl (q_ar (m_F1 hG 8 L) rfl) (by decide +kernel) (j := 8) rfl (m_Fa _ _ ((8, ((c >>> (24 &&& 31)) &&& 255)) :: L)) ?_
  refine q_sg x_40_99 rfl rfl (pc1 := 100) (lv1 := [(7, .int c), (6, .int 8), (0, .ref 448), (1, .int a), (2, .int b), (3, .int c), (4, .int e), (5, .int f)]) (st1 := [.ref 448]) rfl ?_
  refine q_sg x_40_100 rfl rfl (pc1 := 101) (lv1 := [(7, .int c), (6, .int 8), (0, .ref 448), (1, .int a), (2, .int b), (3, .int c), (4, .int e), (5, .int f)]) (st1 := [.ref 448, .ref 448]) rfl ?_
  refine q_s_get x_40_101 rfl (pc1 := 104) rfl (ci := 12) (k := 2) (ns := 0) (by decide +kernel) (q_ob (m_F0 hG 8 ((8, ((c >>> (24 &&& 31)) &&& 255)) :: L)) rfl) (v := .int 8) rfl ?_
  refine q_sg x_40_104 rfl rfl (pc1 := 105) (lv1 := [(7, .int c), (6, .int 8), (0, .ref 448), (1, .int a), (2, .int b), (3, .int c), (4, .int e), (5, .int f)]) (st1 := [.int 1, .int 8, .ref 448]) rfl ?_
  refine q_sg x_40_105 rfl rfl (pc1 := 106) (lv1 := [(7, .int c), (6, .int 8), (0, .ref 448), (1, .int a), (2, .int b), (3, .int c), (4, .int e), (5, .int f)]) (st1 := [.int 9, .ref 448]) rfl ?_
  refine q_s_put x_40_106 (pc1 := 109) rfl (ci := 12) (k := 2) (ns := 0) (by decide +kernel) (q_ob (m_F0 hG 8 ((8, ((c >>> (24 &&& 31)) &&& 255)) :: L)) rfl) (by decide +kernel) (m_Fs _ 9 _) ?_
  refine q_sg x_40_109 rfl rfl (pc1 := 112) (lv1 := [(6, .int 9), (7, .int c), (0, .ref 448), (1, .int a), (2, .int b), (3, .int c), (4, .int e), (5, .int f)]) (st1 := []) rfl ?_
  refine q_sg x_40_112 rfl rfl (pc1 := 18) (lv1 := [(6, .int 9), (7, .int c), (0, .ref 448), (1, .int a), (2, .int b), (3, .int c), (4, .int e), (5, .int f)]) (st1 := []) rfl ?_
  exact kk
theorem m_turn9 {G : q_H} (hG : 264 ≤ G.length) {a b c e f : Int32} {L : List (Nat × Int32)} {d n : Nat} (kk : ∀ L1, ∃ E1, q_run (q_callf 4000 d) (q_own 40) (q_maxL 40) (q_ini 40) (q_code 40) (q_ret 40) n 18 [(6, .int 10), (7, .int c), (0, .ref 448), (1, .int a), (2, .int b), (3, .int c), (4, .int e), (5, .int f)] [] (m_F G 10 L1) 0 0 = some (some (.int 20), E1, 0, 0)) : ∃ E1, q_run (q_callf 4000 d) (q_own 40) (q_maxL 40) (q_ini 40) (q_code 40) (q_ret 40) (n + 39) 18 [(6, .int 9), (7, .int c), (0, .ref 448), (1, .int a), (2, .int b), (3, .int c), (4, .int e), (5, .int f)] [] (m_F G 9 L) 0 0 = some (some (.int 20), E1, 0, 0) := by
  obtain ⟨E1, kk⟩ := kk ((9, ((c >>> (16 &&& 31)) &&& 255)) :: L)
  refine ⟨E1, ?_⟩
  refine q_sg x_40_18 rfl rfl (pc1 := 20) (lv1 := [(6, .int 9), (7, .int c), (0, .ref 448), (1, .int a), (2, .int b), (3, .int c), (4, .int e), (5, .int f)]) (st1 := [.int 9]) rfl ?_
  refine q_sg x_40_20 rfl rfl (pc1 := 22) (lv1 := [(6, .int 9), (7, .int c), (0, .ref 448), (1, .int a), (2, .int b), (3, .int c), (4, .int e), (5, .int f)]) (st1 := [.int 20, .int 9]) rfl ?_
  refine q_sg x_40_22 rfl rfl (pc1 := 25) (lv1 := [(6, .int 9), (7, .int c), (0, .ref 448), (1, .int a), (2, .int b), (3, .int c), (4, .int e), (5, .int f)]) (st1 := []) rfl ?_
  refine q_sg x_40_25 rfl rfl (pc1 := 27) (lv1 := [(6, .int 9), (7, .int c), (0, .ref 448), (1, .int a), (2, .int b), (3, .int c), (4, .int e), (5, .int f)]) (st1 := [.int 9]) rfl ?_
  refine q_sg x_40_27 rfl rfl (pc1 := 28) (lv1 := [(6, .int 9), (7, .int c), (0, .ref 448), (1, .int a), (2, .int b), (3, .int c), (4, .int e), (5, .int f)]) (st1 := [.int 4, .int 9]) rfl ?_
  refine q_sg x_40_28 rfl rfl (pc1 := 35) (lv1 := [(6, .int 9), (7, .int c), (0, .ref 448), (1, .int a), (2, .int b), (3, .int c), (4, .int e), (5, .int f)]) (st1 := []) rfl ?_
  refine q_sg x_40_35 rfl rfl (pc1 := 37) (lv1 := [(6, .int 9), (7, .int c), (0, .ref 448), (1, .int a), (2, .int b), (3, .int c), (4, .int e), (5, .int f)]) (st1 := [.int 9]) rfl ?_
  refine q_sg x_40_37 rfl rfl (pc1 := 39) (lv1 := [(6, .int 9), (7, .int c), (0, .ref 448), (1, .int a), (2, .int b), (3, .int c), (4, .int e), (5, .int f)]) (st1 := [.int 8, .int 9]) rfl ?_
  refine q_sg x_40_39 rfl rfl (pc1 := 46) (lv1 := [(6, .int 9), (7, .int c), (0, .ref 448), (1, .int a), (2, .int b), (3, .int c), (4, .int e), (5, .int f)]) (st1 := []) rfl ?_
  refine q_sg x_40_46 rfl rfl (pc1 := 48) (lv1 := [(6, .int 9), (7, .int c), (0, .ref 448), (1, .int a), (2, .int b), (3, .int c), (4, .int e), (5, .int f)]) (st1 := [.int 9]) rfl ?_
  refine q_sg x_40_48 rfl rfl (pc1 := 50) (lv1 := [(6, .int 9), (7, .int c), (0, .ref 448), (1, .int a), (2, .int b), (3, .int c), (4, .int e), (5, .int f)]) (st1 := [.int 12, .int 9]) rfl ?_
  refine q_sg x_40_50 rfl rfl (pc1 := 53) (lv1 := [(6, .int 9), (7, .int c), (0, .ref 448), (1, .int a), (2, .int b), (3, .int c), (4, .int e), (5, .int f)]) (st1 := []) rfl ?_
  refine q_sg x_40_53 rfl rfl (pc1 := 54) (lv1 := [(6, .int 9), (7, .int c), (0, .ref 448), (1, .int a), (2, .int b), (3, .int c), (4, .int e), (5, .int f)]) (st1 := [.int c]) rfl ?_
  refine q_sg x_40_54 rfl rfl (pc1 := 71) (lv1 := [(6, .int 9), (7, .int c), (0, .ref 448), (1, .int a), (2, .int b), (3, .int c), (4, .int e), (5, .int f)]) (st1 := [.int c]) rfl ?_
  refine q_sg x_40_71 rfl rfl (pc1 := 73) (lv1 := [(7, .int c), (6, .int 9), (0, .ref 448), (1, .int a), (2, .int b), (3, .int c), (4, .int e), (5, .int f)]) (st1 := []) rfl ?_
  refine q_sg x_40_73 rfl rfl (pc1 := 74) (lv1 := [(7, .int c), (6, .int 9), (0, .ref 448), (1, .int a), (2, .int b), (3, .int c), (4, .int e), (5, .int f)]) (st1 := [.ref 448]) rfl ?_
  refine q_s_get x_40_74 rfl (pc1 := 77) rfl (ci := 12) (k := 1) (ns := 0) (by decide +kernel) (q_ob (m_F0 hG 9 L) rfl) (v := .ref 452) rfl ?_
  refine q_sg x_40_77 rfl rfl (pc1 := 78) (lv1 := [(7, .int c), (6, .int 9), (0, .ref 448), (1, .int a), (2, .int b), (3, .int c), (4, .int e), (5, .int f)]) (st1 := [.ref 448, .ref 452]) rfl ?_
  refine q_s_get x_40_78 rfl (pc1 := 81) rfl (ci := 12) (k := 2) (ns := 0) (by decide +kernel) (q_ob (m_F0 hG 9 L) rfl) (v := .int 9) rfl ?_
  refine q_sg x_40_81 rfl rfl (pc1 := 83) (lv1 := [(7, .int c), (6, .int 9), (0, .ref 448), (1, .int a), (2, .int b), (3, .int c), (4, .int e), (5, .int f)]) (st1 := [.int c, .int 9, .ref 452]) rfl ?_
  refine q_sg x_40_83 rfl rfl (pc1 := 85) (lv1 := [(7, .int c), (6, .int 9), (0, .ref 448), (1, .int a), (2, .int b), (3, .int c), (4, .int e), (5, .int f)]) (st1 := [.int 24, .int c, .int 9, .ref 452]) rfl ?_
  refine q_sg x_40_85 rfl rfl (pc1 := 87) (lv1 := [(7, .int c), (6, .int 9), (0, .ref 448), (1, .int a), (2, .int b), (3, .int c), (4, .int e), (5, .int f)]) (st1 := [.int 8, .int 24, .int c, .int 9, .ref 452]) rfl ?_
  refine q_sg x_40_87 rfl rfl (pc1 := 89) (lv1 := [(7, .int c), (6, .int 9), (0, .ref 448), (1, .int a), (2, .int b), (3, .int c), (4, .int e), (5, .int f)]) (st1 := [.int 9, .int 8, .int 24, .int c, .int 9, .ref 452]) rfl ?_
  refine q_sg x_40_89 rfl rfl (pc1 := 90) (lv1 := [(7, .int c), (6, .int 9), (0, .ref 448), (1, .int a), (2, .int b), (3, .int c), (4, .int e), (5, .int f)]) (st1 := [.int 4, .int 9, .int 8, .int 24, .int c, .int 9, .ref 452]) rfl ?_
  refine q_sg x_40_90 rfl rfl (pc1 := 91) (lv1 := [(7, .int c), (6, .int 9), (0, .ref 448), (1, .int a), (2, .int b), (3, .int c), (4, .int e), (5, .int f)]) (st1 := [.int 1, .int 8, .int 24, .int c, .int 9, .ref 452]) rfl ?_
  refine q_sg x_40_91 rfl rfl (pc1 := 92) (lv1 := [(7, .int c), (6, .int 9), (0, .ref 448), (1, .int a), (2, .int b), (3, .int c), (4, .int e), (5, .int f)]) (st1 := [.int 8, .int 24, .int c, .int 9, .ref 452]) rfl ?_
  refine q_sg x_40_92 rfl rfl (pc1 := 93) (lv1 := [(7, .int c), (6, .int 9), (0, .ref 448), (1, .int a), (2, .int b), (3, .int c), (4, .int e), (5, .int f)]) (st1 := [.int 16, .int c, .int 9, .ref 452]) rfl ?_
  refine q_sg x_40_93 rfl rfl (pc1 := 94) (lv1 := [(7, .int c), (6, .int 9), (0, .ref 448), (1, .int a), (2, .int b), (3, .int c), (4, .int e), (5, .int f)]) (st1 := [.int (c >>> (16 &&& 31)), .int 9, .ref 452]) rfl ?_
  refine q_sg x_40_94 rfl rfl (pc1 := 97) (lv1 := [(7, .int c), (6, .int 9), (0, .ref 448), (1, .int a), (2, .int b), (3, .int c), (4, .int e), (5, .int f)]) (st1 := [.int 255, .int (c >>> (16 &&& 31)), .int 9, .ref 452]) rfl ?_
  refine q_sg x_40_97 rfl rfl (pc1 := 98) (lv1 := [(7, .int c), (6, .int 9), (0, .ref 448), (1, .int a), (2, .int b), (3, .int c), (4, .int e), (5, .int f)]) (st1 := [.int ((c >>> (16 &&& 31)) &&& 255), .int 9, .ref 452]) rfl ?_
  refine q_s_ias x_40_98 (pc1 := 99) rfl (q_ar (m_F1 hG 9 L) rfl) (by decide +kernel) (j := 9) rfl (m_Fa _ _ ((9, ((c >>> (16 &&& 31)) &&& 255)) :: L)) ?_
  refine q_sg x_40_99 rfl rfl (pc1 := 100) (lv1 := [(7, .int c), (6, .int 9), (0, .ref 448), (1, .int a), (2, .int b), (3, .int c), (4, .int e), (5, .int f)]) (st1 := [.ref 448]) rfl ?_
  refine q_sg x_40_100 rfl rfl (pc1 := 101) (lv1 := [(7, .int c), (6, .int 9), (0, .ref 448), (1, .int a), (2, .int b), (3, .int c), (4, .int e), (5, .int f)]) (st1 := [.ref 448, .ref 448]) rfl ?_
  refine q_s_get x_40_101 rfl (pc1 := 104) rfl (ci := 12) (k := 2) (ns := 0) (by decide +kernel) (q_ob (m_F0 hG 9 ((9, ((c >>> (16 &&& 31)) &&& 255)) :: L)) rfl) (v := .int 9) rfl ?_
  refine q_sg x_40_104 rfl rfl (pc1 := 105) (lv1 := [(7, .int c), (6, .int 9), (0, .ref 448), (1, .int a), (2, .int b), (3, .int c), (4, .int e), (5, .int f)]) (st1 := [.int 1, .int 9, .ref 448]) rfl ?_
  refine q_sg x_40_105 rfl rfl (pc1 := 106) (lv1 := [(7, .int c), (6, .int 9), (0, .ref 448), (1, .int a), (2, .int b), (3, .int c), (4, .int e), (5, .int f)]) (st1 := [.int 10, .ref 448]) rfl ?_
  refine q_s_put x_40_106 (pc1 := 109) rfl (ci := 12) (k := 2) (ns := 0) (by decide +kernel) (q_ob (m_F0 hG 9 ((9, ((c >>> (16 &&& 31)) &&& 255)) :: L)) rfl) (by decide +kernel) (m_Fs _ 10 _) ?_
  refine q_sg x_40_109 rfl rfl (pc1 := 112) (lv1 := [(6, .int 10), (7, .int c), (0, .ref 448), (1, .int a), (2, .int b), (3, .int c), (4, .int e), (5, .int f)]) (st1 := []) rfl ?_
  refine q_sg x_40_112 rfl rfl (pc1 := 18) (lv1 := [(6, .int 10), (7, .int c), (0, .ref 448), (1, .int a), (2, .int b), (3, .int c), (4, .int e), (5, .int f)]) (st1 := []) rfl ?_
  exact kk
theorem m_turn10 {G : q_H} (hG : 264 ≤ G.length) {a b c e f : Int32} {L : List (Nat × Int32)} {d n : Nat} (kk : ∀ L1, ∃ E1, q_run (q_callf 4000 d) (q_own 40) (q_maxL 40) (q_ini 40) (q_code 40) (q_ret 40) n 18 [(6, .int 11), (7, .int c), (0, .ref 448), (1, .int a), (2, .int b), (3, .int c), (4, .int e), (5, .int f)] [] (m_F G 11 L1) 0 0 = some (some (.int 20), E1, 0, 0)) : ∃ E1, q_run (q_callf 4000 d) (q_own 40) (q_maxL 40) (q_ini 40) (q_code 40) (q_ret 40) (n + 39) 18 [(6, .int 10), (7, .int c), (0, .ref 448), (1, .int a), (2, .int b), (3, .int c), (4, .int e), (5, .int f)] [] (m_F G 10 L) 0 0 = some (some (.int 20), E1, 0, 0) := by
  obtain ⟨E1, kk⟩ := kk ((10, ((c >>> (8 &&& 31)) &&& 255)) :: L)
  refine ⟨E1, ?_⟩
  refine q_sg x_40_18 rfl rfl (pc1 := 20) (lv1 := [(6, .int 10), (7, .int c), (0, .ref 448), (1, .int a), (2, .int b), (3, .int c), (4, .int e), (5, .int f)]) (st1 := [.int 10]) rfl ?_
  refine q_sg x_40_20 rfl rfl (pc1 := 22) (lv1 := [(6, .int 10), (7, .int c), (0, .ref 448), (1, .int a), (2, .int b), (3, .int c), (4, .int e), (5, .int f)]) (st1 := [.int 20, .int 10]) rfl ?_
  refine q_sg x_40_22 rfl rfl (pc1 := 25) (lv1 := [(6, .int 10), (7, .int c), (0, .ref 448), (1, .int a), (2, .int b), (3, .int c), (4, .int e), (5, .int f)]) (st1 := []) rfl ?_
  refine q_sg x_40_25 rfl rfl (pc1 := 27) (lv1 := [(6, .int 10), (7, .int c), (0, .ref 448), (1, .int a), (2, .int b), (3, .int c), (4, .int e), (5, .int f)]) (st1 := [.int 10]) rfl ?_
  refine q_sg x_40_27 rfl rfl (pc1 := 28) (lv1 := [(6, .int 10), (7, .int c), (0, .ref 448), (1, .int a), (2, .int b), (3, .int c), (4, .int e), (5, .int f)]) (st1 := [.int 4, .int 10]) rfl ?_
  refine q_sg x_40_28 rfl rfl (pc1 := 35) (lv1 := [(6, .int 10), (7, .int c), (0, .ref 448), (1, .int a), (2, .int b), (3, .int c), (4, .int e), (5, .int f)]) (st1 := []) rfl ?_
  refine q_sg x_40_35 rfl rfl (pc1 := 37) (lv1 := [(6, .int 10), (7, .int c), (0, .ref 448), (1, .int a), (2, .int b), (3, .int c), (4, .int e), (5, .int f)]) (st1 := [.int 10]) rfl ?_
  refine q_sg x_40_37 rfl rfl (pc1 := 39) (lv1 := [(6, .int 10), (7, .int c), (0, .ref 448), (1, .int a), (2, .int b), (3, .int c), (4, .int e), (5, .int f)]) (st1 := [.int 8, .int 10]) rfl ?_
  refine q_sg x_40_39 rfl rfl (pc1 := 46) (lv1 := [(6, .int 10), (7, .int c), (0, .ref 448), (1, .int a), (2, .int b), (3, .int c), (4, .int e), (5, .int f)]) (st1 := []) rfl ?_
  refine q_sg x_40_46 rfl rfl (pc1 := 48) (lv1 := [(6, .int 10), (7, .int c), (0, .ref 448), (1, .int a), (2, .int b), (3, .int c), (4, .int e), (5, .int f)]) (st1 := [.int 10]) rfl ?_
  refine q_sg x_40_48 rfl rfl (pc1 := 50) (lv1 := [(6, .int 10), (7, .int c), (0, .ref 448), (1, .int a), (2, .int b), (3, .int c), (4, .int e), (5, .int f)]) (st1 := [.int 12, .int 10]) rfl ?_
  refine q_sg x_40_50 rfl rfl (pc1 := 53) (lv1 := [(6, .int 10), (7, .int c), (0, .ref 448), (1, .int a), (2, .int b), (3, .int c), (4, .int e), (5, .int f)]) (st1 := []) rfl ?_
  refine q_sg x_40_53 rfl rfl (pc1 := 54) (lv1 := [(6, .int 10), (7, .int c), (0, .ref 448), (1, .int a), (2, .int b), (3, .int c), (4, .int e), (5, .int f)]) (st1 := [.int c]) rfl ?_
  refine q_sg x_40_54 rfl rfl (pc1 := 71) (lv1 := [(6, .int 10), (7, .int c), (0, .ref 448), (1, .int a), (2, .int b), (3, .int c), (4, .int e), (5, .int f)]) (st1 := [.int c]) rfl ?_
  refine q_sg x_40_71 rfl rfl (pc1 := 73) (lv1 := [(7, .int c), (6, .int 10), (0, .ref 448), (1, .int a), (2, .int b), (3, .int c), (4, .int e), (5, .int f)]) (st1 := []) rfl ?_
  refine q_sg x_40_73 rfl rfl (pc1 := 74) (lv1 := [(7, .int c), (6, .int 10), (0, .ref 448), (1, .int a), (2, .int b), (3, .int c), (4, .int e), (5, .int f)]) (st1 := [.ref 448]) rfl ?_
  refine q_s_get x_40_74 rfl (pc1 := 77) rfl (ci := 12) (k := 1) (ns := 0) (by decide +kernel) (q_ob (m_F0 hG 10 L) rfl) (v := .ref 452) rfl ?_
  refine q_sg x_40_77 rfl rfl (pc1 := 78) (lv1 := [(7, .int c), (6, .int 10), (0, .ref 448), (1, .int a), (2, .int b), (3, .int c), (4, .int e), (5, .int f)]) (st1 := [.ref 448, .ref 452]) rfl ?_
  refine q_s_get x_40_78 rfl (pc1 := 81) rfl (ci := 12) (k := 2) (ns := 0) (by decide +kernel) (q_ob (m_F0 hG 10 L) rfl) (v := .int 10) rfl ?_
  refine q_sg x_40_81 rfl rfl (pc1 := 83) (lv1 := [(7, .int c), (6, .int 10), (0, .ref 448), (1, .int a), (2, .int b), (3, .int c), (4, .int e), (5, .int f)]) (st1 := [.int c, .int 10, .ref 452]) rfl ?_
  refine q_sg x_40_83 rfl rfl (pc1 := 85) (lv1 := [(7, .int c), (6, .int 10), (0, .ref 448), (1, .int a), (2, .int b), (3, .int c), (4, .int e), (5, .int f)]) (st1 := [.int 24, .int c, .int 10, .ref 452]) rfl ?_
  refine q_sg x_40_85 rfl rfl (pc1 := 87) (lv1 := [(7, .int c), (6, .int 10), (0, .ref 448), (1, .int a), (2, .int b), (3, .int c), (4, .int e), (5, .int f)]) (st1 := [.int 8, .int 24, .int c, .int 10, .ref 452]) rfl ?_
  refine q_sg x_40_87 rfl rfl (pc1 := 89) (lv1 := [(7, .int c), (6, .int 10), (0, .ref 448), (1, .int a), (2, .int b), (3, .int c), (4, .int e), (5, .int f)]) (st1 := [.int 10, .int 8, .int 24, .int c, .int 10, .ref 452]) rfl ?_
  refine q_sg x_40_89 rfl rfl (pc1 := 90) (lv1 := [(7, .int c), (6, .int 10), (0, .ref 448), (1, .int a), (2, .int b), (3, .int c), (4, .int e), (5, .int f)]) (st1 := [.int 4, .int 10, .int 8, .int 24, .int c, .int 10, .ref 452]) rfl ?_
  refine q_sg x_40_90 rfl rfl (pc1 := 91) (lv1 := [(7, .int c), (6, .int 10), (0, .ref 448), (1, .int a), (2, .int b), (3, .int c), (4, .int e), (5, .int f)]) (st1 := [.int 2, .int 8, .int 24, .int c, .int 10, .ref 452]) rfl ?_
  refine q_sg x_40_91 rfl rfl (pc1 := 92) (lv1 := [(7, .int c), (6, .int 10), (0, .ref 448), (1, .int a), (2, .int b), (3, .int c), (4, .int e), (5, .int f)]) (st1 := [.int 16, .int 24, .int c, .int 10, .ref 452]) rfl ?_
  refine q_sg x_40_92 rfl rfl (pc1 := 93) (lv1 := [(7, .int c), (6, .int 10), (0, .ref 448), (1, .int a), (2, .int b), (3, .int c), (4, .int e), (5, .int f)]) (st1 := [.int 8, .int c, .int 10, .ref 452]) rfl ?_
  refine q_sg x_40_93 rfl rfl (pc1 := 94) (lv1 := [(7, .int c), (6, .int 10), (0, .ref 448), (1, .int a), (2, .int b), (3, .int c), (4, .int e), (5, .int f)]) (st1 := [.int (c >>> (8 &&& 31)), .int 10, .ref 452]) rfl ?_
  refine q_sg x_40_94 rfl rfl (pc1 := 97) (lv1 := [(7, .int c), (6, .int 10), (0, .ref 448), (1, .int a), (2, .int b), (3, .int c), (4, .int e), (5, .int f)]) (st1 := [.int 255, .int (c >>> (8 &&& 31)), .int 10, .ref 452]) rfl ?_
  refine q_sg x_40_97 rfl rfl (pc1 := 98) (lv1 := [(7, .int c), (6, .int 10), (0, .ref 448), (1, .int a), (2, .int b), (3, .int c), (4, .int e), (5, .int f)]) (st1 := [.int ((c >>> (8 &&& 31)) &&& 255), .int 10, .ref 452]) rfl ?_
  refine q_s_ias x_40_98 (pc1 := 99) rfl (q_ar (m_F1 hG 10 L) rfl) (by decide +kernel) (j := 10) rfl (m_Fa _ _ ((10, ((c >>> (8 &&& 31)) &&& 255)) :: L)) ?_
  refine q_sg x_40_99 rfl rfl (pc1 := 100) (lv1 := [(7, .int c), (6, .int 10), (0, .ref 448), (1, .int a), (2, .int b), (3, .int c), (4, .int e), (5, .int f)]) (st1 := [.ref 448]) rfl ?_
  refine q_sg x_40_100 rfl rfl (pc1 := 101) (lv1 := [(7, .int c), (6, .int 10), (0, .ref 448), (1, .int a), (2, .int b), (3, .int c), (4, .int e), (5, .int f)]) (st1 := [.ref 448, .ref 448]) rfl ?_
  refine q_s_get x_40_101 rfl (pc1 := 104) rfl (ci := 12) (k := 2) (ns := 0) (by decide +kernel) (q_ob (m_F0 hG 10 ((10, ((c >>> (8 &&& 31)) &&& 255)) :: L)) rfl) (v := .int 10) rfl ?_
  refine q_sg x_40_104 rfl rfl (pc1 := 105) (lv1 := [(7, .int c), (6, .int 10), (0, .ref 448), (1, .int a), (2, .int b), (3, .int c), (4, .int e), (5, .int f)]) (st1 := [.int 1, .int 10, .ref 448]) rfl ?_
  refine q_sg x_40_105 rfl rfl (pc1 := 106) (lv1 := [(7, .int c), (6, .int 10), (0, .ref 448), (1, .int a), (2, .int b), (3, .int c), (4, .int e), (5, .int f)]) (st1 := [.int 11, .ref 448]) rfl ?_
  refine q_s_put x_40_106 (pc1 := 109) rfl (ci := 12) (k := 2) (ns := 0) (by decide +kernel) (q_ob (m_F0 hG 10 ((10, ((c >>> (8 &&& 31)) &&& 255)) :: L)) rfl) (by decide +kernel) (m_Fs _ 11 _) ?_
  refine q_sg x_40_109 rfl rfl (pc1 := 112) (lv1 := [(6, .int 11), (7, .int c), (0, .ref 448), (1, .int a), (2, .int b), (3, .int c), (4, .int e), (5, .int f)]) (st1 := []) rfl ?_
  refine q_sg x_40_112 rfl rfl (pc1 := 18) (lv1 := [(6, .int 11), (7, .int c), (0, .ref 448), (1, .int a), (2, .int b), (3, .int c), (4, .int e), (5, .int f)]) (st1 := []) rfl ?_
  exact kk
theorem m_turn11 {G : q_H} (hG : 264 ≤ G.length) {a b c e f : Int32} {L : List (Nat × Int32)} {d n : Nat} (kk : ∀ L1, ∃ E1, q_run (q_callf 4000 d) (q_own 40) (q_maxL 40) (q_ini 40) (q_code 40) (q_ret 40) n 18 [(6, .int 12), (7, .int c), (0, .ref 448), (1, .int a), (2, .int b), (3, .int c), (4, .int e), (5, .int f)] [] (m_F G 12 L1) 0 0 = some (some (.int 20), E1, 0, 0)) : ∃ E1, q_run (q_callf 4000 d) (q_own 40) (q_maxL 40) (q_ini 40) (q_code 40) (q_ret 40) (n + 39) 18 [(6, .int 11), (7, .int c), (0, .ref 448), (1, .int a), (2, .int b), (3, .int c), (4, .int e), (5, .int f)] [] (m_F G 11 L) 0 0 = some (some (.int 20), E1, 0, 0) := by
  obtain ⟨E1, kk⟩ := kk ((11, ((c >>> (0 &&& 31)) &&& 255)) :: L)
  refine ⟨E1, ?_⟩
  refine q_sg x_40_18 rfl rfl (pc1 := 20) (lv1 := [(6, .int 11), (7, .int c), (0, .ref 448), (1, .int a), (2, .int b), (3, .int c), (4, .int e), (5, .int f)]) (st1 := [.int 11]) rfl ?_
  refine q_sg x_40_20 rfl rfl (pc1 := 22) (lv1 := [(6, .int 11), (7, .int c), (0, .ref 448), (1, .int a), (2, .int b), (3, .int c), (4, .int e), (5, .int f)]) (st1 := [.int 20, .int 11]) rfl ?_
  refine q_sg x_40_22 rfl rfl (pc1 := 25) (lv1 := [(6, .int 11), (7, .int c), (0, .ref 448), (1, .int a), (2, .int b), (3, .int c), (4, .int e), (5, .int f)]) (st1 := []) rfl ?_
  refine q_sg x_40_25 rfl rfl (pc1 := 27) (lv1 := [(6, .int 11), (7, .int c), (0, .ref 448), (1, .int a), (2, .int b), (3, .int c), (4, .int e), (5, .int f)]) (st1 := [.int 11]) rfl ?_
  refine q_sg x_40_27 rfl rfl (pc1 := 28) (lv1 := [(6, .int 11), (7, .int c), (0, .ref 448), (1, .int a), (2, .int b), (3, .int c), (4, .int e), (5, .int f)]) (st1 := [.int 4, .int 11]) rfl ?_
  refine q_sg x_40_28 rfl rfl (pc1 := 35) (lv1 := [(6, .int 11), (7, .int c), (0, .ref 448), (1, .int a), (2, .int b), (3, .int c), (4, .int e), (5, .int f)]) (st1 := []) rfl ?_
  refine q_sg x_40_35 rfl rfl (pc1 := 37) (lv1 := [(6, .int 11), (7, .int c), (0, .ref 448), (1, .int a), (2, .int b), (3, .int c), (4, .int e), (5, .int f)]) (st1 := [.int 11]) rfl ?_
  refine q_sg x_40_37 rfl rfl (pc1 := 39) (lv1 := [(6, .int 11), (7, .int c), (0, .ref 448), (1, .int a), (2, .int b), (3, .int c), (4, .int e), (5, .int f)]) (st1 := [.int 8, .int 11]) rfl ?_
  refine q_sg x_40_39 rfl rfl (pc1 := 46) (lv1 := [(6, .int 11), (7, .int c), (0, .ref 448), (1, .int a), (2, .int b), (3, .int c), (4, .int e), (5, .int f)]) (st1 := []) rfl ?_
  refine q_sg x_40_46 rfl rfl (pc1 := 48) (lv1 := [(6, .int 11), (7, .int c), (0, .ref 448), (1, .int a), (2, .int b), (3, .int c), (4, .int e), (5, .int f)]) (st1 := [.int 11]) rfl ?_
  refine q_sg x_40_48 rfl rfl (pc1 := 50) (lv1 := [(6, .int 11), (7, .int c), (0, .ref 448), (1, .int a), (2, .int b), (3, .int c), (4, .int e), (5, .int f)]) (st1 := [.int 12, .int 11]) rfl ?_
  refine q_sg x_40_50 rfl rfl (pc1 := 53) (lv1 := [(6, .int 11), (7, .int c), (0, .ref 448), (1, .int a), (2, .int b), (3, .int c), (4, .int e), (5, .int f)]) (st1 := []) rfl ?_
  refine q_sg x_40_53 rfl rfl (pc1 := 54) (lv1 := [(6, .int 11), (7, .int c), (0, .ref 448), (1, .int a), (2, .int b), (3, .int c), (4, .int e), (5, .int f)]) (st1 := [.int c]) rfl ?_
  refine q_sg x_40_54 rfl rfl (pc1 := 71) (lv1 := [(6, .int 11), (7, .int c), (0, .ref 448), (1, .int a), (2, .int b), (3, .int c), (4, .int e), (5, .int f)]) (st1 := [.int c]) rfl ?_
  refine q_sg x_40_71 rfl rfl (pc1 := 73) (lv1 := [(7, .int c), (6, .int 11), (0, .ref 448), (1, .int a), (2, .int b), (3, .int c), (4, .int e), (5, .int f)]) (st1 := []) rfl ?_
  refine q_sg x_40_73 rfl rfl (pc1 := 74) (lv1 := [(7, .int c), (6, .int 11), (0, .ref 448), (1, .int a), (2, .int b), (3, .int c), (4, .int e), (5, .int f)]) (st1 := [.ref 448]) rfl ?_
  refine q_s_get x_40_74 rfl (pc1 := 77) rfl (ci := 12) (k := 1) (ns := 0) (by decide +kernel) (q_ob (m_F0 hG 11 L) rfl) (v := .ref 452) rfl ?_
  refine q_sg x_40_77 rfl rfl (pc1 := 78) (lv1 := [(7, .int c), (6, .int 11), (0, .ref 448), (1, .int a), (2, .int b), (3, .int c), (4, .int e), (5, .int f)]) (st1 := [.ref 448, .ref 452]) rfl ?_
  refine q_s_get x_40_78 rfl (pc1 := 81) rfl (ci := 12) (k := 2) (ns := 0) (by decide +kernel) (q_ob (m_F0 hG 11 L) rfl) (v := .int 11) rfl ?_
  refine q_sg x_40_81 rfl rfl (pc1 := 83) (lv1 := [(7, .int c), (6, .int 11), (0, .ref 448), (1, .int a), (2, .int b), (3, .int c), (4, .int e), (5, .int f)]) (st1 := [.int c, .int 11, .ref 452]) rfl ?_
  refine q_sg x_40_83 rfl rfl (pc1 := 85) (lv1 := [(7, .int c), (6, .int 11), (0, .ref 448), (1, .int a), (2, .int b), (3, .int c), (4, .int e), (5, .int f)]) (st1 := [.int 24, .int c, .int 11, .ref 452]) rfl ?_
  refine q_sg x_40_85 rfl rfl (pc1 := 87) (lv1 := [(7, .int c), (6, .int 11), (0, .ref 448), (1, .int a), (2, .int b), (3, .int c), (4, .int e), (5, .int f)]) (st1 := [.int 8, .int 24, .int c, .int 11, .ref 452]) rfl ?_
  refine q_sg x_40_87 rfl rfl (pc1 := 89) (lv1 := [(7, .int c), (6, .int 11), (0, .ref 448), (1, .int a), (2, .int b), (3, .int c), (4, .int e), (5, .int f)]) (st1 := [.int 11, .int 8, .int 24, .int c, .int 11, .ref 452]) rfl ?_
  refine q_sg x_40_89 rfl rfl (pc1 := 90) (lv1 := [(7, .int c), (6, .int 11), (0, .ref 448), (1, .int a), (2, .int b), (3, .int c), (4, .int e), (5, .int f)]) (st1 := [.int 4, .int 11, .int 8, .int 24, .int c, .int 11, .ref 452]) rfl ?_
  refine q_sg x_40_90 rfl rfl (pc1 := 91) (lv1 := [(7, .int c), (6, .int 11), (0, .ref 448), (1, .int a), (2, .int b), (3, .int c), (4, .int e), (5, .int f)]) (st1 := [.int 3, .int 8, .int 24, .int c, .int 11, .ref 452]) rfl ?_
  refine q_sg x_40_91 rfl rfl (pc1 := 92) (lv1 := [(7, .int c), (6, .int 11), (0, .ref 448), (1, .int a), (2, .int b), (3, .int c), (4, .int e), (5, .int f)]) (st1 := [.int 24, .int 24, .int c, .int 11, .ref 452]) rfl ?_
  refine q_sg x_40_92 rfl rfl (pc1 := 93) (lv1 := [(7, .int c), (6, .int 11), (0, .ref 448), (1, .int a), (2, .int b), (3, .int c), (4, .int e), (5, .int f)]) (st1 := [.int 0, .int c, .int 11, .ref 452]) rfl ?_
  refine q_sg x_40_93 rfl rfl (pc1 := 94) (lv1 := [(7, .int c), (6, .int 11), (0, .ref 448), (1, .int a), (2, .int b), (3, .int c), (4, .int e), (5, .int f)]) (st1 := [.int (c >>> (0 &&& 31)), .int 11, .ref 452]) rfl ?_
  refine q_sg x_40_94 rfl rfl (pc1 := 97) (lv1 := [(7, .int c), (6, .int 11), (0, .ref 448), (1, .int a), (2, .int b), (3, .int c), (4, .int e), (5, .int f)]) (st1 := [.int 255, .int (c >>> (0 &&& 31)), .int 11, .ref 452]) rfl ?_
  refine q_sg x_40_97 rfl rfl (pc1 := 98) (lv1 := [(7, .int c), (6, .int 11), (0, .ref 448), (1, .int a), (2, .int b), (3, .int c), (4, .int e), (5, .int f)]) (st1 := [.int ((c >>> (0 &&& 31)) &&& 255), .int 11, .ref 452]) rfl ?_
  refine q_s_ias x_40_98 (pc1 := 99) rfl (q_ar (m_F1 hG 11 L) rfl) (by decide +kernel) (j := 11) rfl (m_Fa _ _ ((11, ((c >>> (0 &&& 31)) &&& 255)) :: L)) ?_
  refine q_sg x_40_99 rfl rfl (pc1 := 100) (lv1 := [(7, .int c), (6, .int 11), (0, .ref 448), (1, .int a), (2, .int b), (3, .int c), (4, .int e), (5, .int f)]) (st1 := [.ref 448]) rfl ?_
  refine q_sg x_40_100 rfl rfl (pc1 := 101) (lv1 := [(7, .int c), (6, .int 11), (0, .ref 448), (1, .int a), (2, .int b), (3, .int c), (4, .int e), (5, .int f)]) (st1 := [.ref 448, .ref 448]) rfl ?_
  refine q_s_get x_40_101 rfl (pc1 := 104) rfl (ci := 12) (k := 2) (ns := 0) (by decide +kernel) (q_ob (m_F0 hG 11 ((11, ((c >>> (0 &&& 31)) &&& 255)) :: L)) rfl) (v := .int 11) rfl ?_
  refine q_sg x_40_104 rfl rfl (pc1 := 105) (lv1 := [(7, .int c), (6, .int 11), (0, .ref 448), (1, .int a), (2, .int b), (3, .int c), (4, .int e), (5, .int f)]) (st1 := [.int 1, .int 11, .ref 448]) rfl ?_
  refine q_sg x_40_105 rfl rfl (pc1 := 106) (lv1 := [(7, .int c), (6, .int 11), (0, .ref 448), (1, .int a), (2, .int b), (3, .int c), (4, .int e), (5, .int f)]) (st1 := [.int 12, .ref 448]) rfl ?_
  refine q_s_put x_40_106 (pc1 := 109) rfl (ci := 12) (k := 2) (ns := 0) (by decide +kernel) (q_ob (m_F0 hG 11 ((11, ((c >>> (0 &&& 31)) &&& 255)) :: L)) rfl) (by decide +kernel) (m_Fs _ 12 _) ?_
  refine q_sg x_40_109 rfl rfl (pc1 := 112) (lv1 := [(6, .int 12), (7, .int c), (0, .ref 448), (1, .int a), (2, .int b), (3, .int c), (4, .int e), (5, .int f)]) (st1 := []) rfl ?_
  refine q_sg x_40_112 rfl rfl (pc1 := 18) (lv1 := [(6, .int 12), (7, .int c), (0, .ref 448), (1, .int a), (2, .int b), (3, .int c), (4, .int e), (5, .int f)]) (st1 := []) rfl ?_
  exact kk
theorem m_turn12 {G : q_H} (hG : 264 ≤ G.length) {a b c e f : Int32} {L : List (Nat × Int32)} {d n : Nat} (kk : ∀ L1, ∃ E1, q_run (q_callf 4000 d) (q_own 40) (q_maxL 40) (q_ini 40) (q_code 40) (q_ret 40) n 18 [(6, .int 13), (7, .int e), (0, .ref 448), (1, .int a), (2, .int b), (3, .int c), (4, .int e), (5, .int f)] [] (m_F G 13 L1) 0 0 = some (some (.int 20), E1, 0, 0)) : ∃ E1, q_run (q_callf 4000 d) (q_own 40) (q_maxL 40) (q_ini 40) (q_code 40) (q_ret 40) (n + 42) 18 [(6, .int 12), (7, .int c), (0, .ref 448), (1, .int a), (2, .int b), (3, .int c), (4, .int e), (5, .int f)] [] (m_F G 12 L) 0 0 = some (some (.int 20), E1, 0, 0) := by
  obtain ⟨E1, kk⟩ := kk ((12, ((e >>> (24 &&& 31)) &&& 255)) :: L)
  refine ⟨E1, ?_⟩
  refine q_sg x_40_18 rfl rfl (pc1 := 20) (lv1 := [(6, .int 12), (7, .int c), (0, .ref 448), (1, .int a), (2, .int b), (3, .int c), (4, .int e), (5, .int f)]) (st1 := [.int 12]) rfl ?_
  refine q_sg x_40_20 rfl rfl (pc1 := 22) (lv1 := [(6, .int 12), (7, .int c), (0, .ref 448), (1, .int a), (2, .int b), (3, .int c), (4, .int e), (5, .int f)]) (st1 := [.int 20, .int 12]) rfl ?_
  refine q_sg x_40_22 rfl rfl (pc1 := 25) (lv1 := [(6, .int 12), (7, .int c), (0, .ref 448), (1, .int a), (2, .int b), (3, .int c), (4, .int e), (5, .int f)]) (st1 := []) rfl ?_
  refine q_sg x_40_25 rfl rfl (pc1 := 27) (lv1 := [(6, .int 12), (7, .int c), (0, .ref 448), (1, .int a), (2, .int b), (3, .int c), (4, .int e), (5, .int f)]) (st1 := [.int 12]) rfl ?_
  refine q_sg x_40_27 rfl rfl (pc1 := 28) (lv1 := [(6, .int 12), (7, .int c), (0, .ref 448), (1, .int a), (2, .int b), (3, .int c), (4, .int e), (5, .int f)]) (st1 := [.int 4, .int 12]) rfl ?_
  refine q_sg x_40_28 rfl rfl (pc1 := 35) (lv1 := [(6, .int 12), (7, .int c), (0, .ref 448), (1, .int a), (2, .int b), (3, .int c), (4, .int e), (5, .int f)]) (st1 := []) rfl ?_
  refine q_sg x_40_35 rfl rfl (pc1 := 37) (lv1 := [(6, .int 12), (7, .int c), (0, .ref 448), (1, .int a), (2, .int b), (3, .int c), (4, .int e), (5, .int f)]) (st1 := [.int 12]) rfl ?_
  refine q_sg x_40_37 rfl rfl (pc1 := 39) (lv1 := [(6, .int 12), (7, .int c), (0, .ref 448), (1, .int a), (2, .int b), (3, .int c), (4, .int e), (5, .int f)]) (st1 := [.int 8, .int 12]) rfl ?_
  refine q_sg x_40_39 rfl rfl (pc1 := 46) (lv1 := [(6, .int 12), (7, .int c), (0, .ref 448), (1, .int a), (2, .int b), (3, .int c), (4, .int e), (5, .int f)]) (st1 := []) rfl ?_
  refine q_sg x_40_46 rfl rfl (pc1 := 48) (lv1 := [(6, .int 12), (7, .int c), (0, .ref 448), (1, .int a), (2, .int b), (3, .int c), (4, .int e), (5, .int f)]) (st1 := [.int 12]) rfl ?_
  refine q_sg x_40_48 rfl rfl (pc1 := 50) (lv1 := [(6, .int 12), (7, .int c), (0, .ref 448), (1, .int a), (2, .int b), (3, .int c), (4, .int e), (5, .int f)]) (st1 := [.int 12, .int 12]) rfl ?_
  refine q_sg x_40_50 rfl rfl (pc1 := 57) (lv1 := [(6, .int 12), (7, .int c), (0, .ref 448), (1, .int a), (2, .int b), (3, .int c), (4, .int e), (5, .int f)]) (st1 := []) rfl ?_
  refine q_sg x_40_57 rfl rfl (pc1 := 59) (lv1 := [(6, .int 12), (7, .int c), (0, .ref 448), (1, .int a), (2, .int b), (3, .int c), (4, .int e), (5, .int f)]) (st1 := [.int 12]) rfl ?_
  refine q_sg x_40_59 rfl rfl (pc1 := 61) (lv1 := [(6, .int 12), (7, .int c), (0, .ref 448), (1, .int a), (2, .int b), (3, .int c), (4, .int e), (5, .int f)]) (st1 := [.int 16, .int 12]) rfl ?_
  refine q_sg x_40_61 rfl rfl (pc1 := 64) (lv1 := [(6, .int 12), (7, .int c), (0, .ref 448), (1, .int a), (2, .int b), (3, .int c), (4, .int e), (5, .int f)]) (st1 := []) rfl ?_
  refine q_sg x_40_64 rfl rfl (pc1 := 66) (lv1 := [(6, .int 12), (7, .int c), (0, .ref 448), (1, .int a), (2, .int b), (3, .int c), (4, .int e), (5, .int f)]) (st1 := [.int e]) rfl ?_
  refine q_sg x_40_66 rfl rfl (pc1 := 71) (lv1 := [(6, .int 12), (7, .int c), (0, .ref 448), (1, .int a), (2, .int b), (3, .int c), (4, .int e), (5, .int f)]) (st1 := [.int e]) rfl ?_
  refine q_sg x_40_71 rfl rfl (pc1 := 73) (lv1 := [(7, .int e), (6, .int 12), (0, .ref 448), (1, .int a), (2, .int b), (3, .int c), (4, .int e), (5, .int f)]) (st1 := []) rfl ?_
  refine q_sg x_40_73 rfl rfl (pc1 := 74) (lv1 := [(7, .int e), (6, .int 12), (0, .ref 448), (1, .int a), (2, .int b), (3, .int c), (4, .int e), (5, .int f)]) (st1 := [.ref 448]) rfl ?_
  refine q_s_get x_40_74 rfl (pc1 := 77) rfl (ci := 12) (k := 1) (ns := 0) (by decide +kernel) (q_ob (m_F0 hG 12 L) rfl) (v := .ref 452) rfl ?_
  refine q_sg x_40_77 rfl rfl (pc1 := 78) (lv1 := [(7, .int e), (6, .int 12), (0, .ref 448), (1, .int a), (2, .int b), (3, .int c), (4, .int e), (5, .int f)]) (st1 := [.ref 448, .ref 452]) rfl ?_
  refine q_s_get x_40_78 rfl (pc1 := 81) rfl (ci := 12) (k := 2) (ns := 0) (by decide +kernel) (q_ob (m_F0 hG 12 L) rfl) (v := .int 12) rfl ?_
  refine q_sg x_40_81 rfl rfl (pc1 := 83) (lv1 := [(7, .int e), (6, .int 12), (0, .ref 448), (1, .int a), (2, .int b), (3, .int c), (4, .int e), (5, .int f)]) (st1 := [.int e, .int 12, .ref 452]) rfl ?_
  refine q_sg x_40_83 rfl rfl (pc1 := 85) (lv1 := [(7, .int e), (6, .int 12), (0, .ref 448), (1, .int a), (2, .int b), (3, .int c), (4, .int e), (5, .int f)]) (st1 := [.int 24, .int e, .int 12, .ref 452]) rfl ?_
  refine q_sg x_40_85 rfl rfl (pc1 := 87) (lv1 := [(7, .int e), (6, .int 12), (0, .ref 448), (1, .int a), (2, .int b), (3, .int c), (4, .int e), (5, .int f)]) (st1 := [.int 8, .int 24, .int e, .int 12, .ref 452]) rfl ?_
  refine q_sg x_40_87 rfl rfl (pc1 := 89) (lv1 := [(7, .int e), (6, .int 12), (0, .ref 448), (1, .int a), (2, .int b), (3, .int c), (4, .int e), (5, .int f)]) (st1 := [.int 12, .int 8, .int 24, .int e, .int 12, .ref 452]) rfl ?_
  refine q_sg x_40_89 rfl rfl (pc1 := 90) (lv1 := [(7, .int e), (6, .int 12), (0, .ref 448), (1, .int a), (2, .int b), (3, .int c), (4, .int e), (5, .int f)]) (st1 := [.int 4, .int 12, .int 8, .int 24, .int e, .int 12, .ref 452]) rfl ?_
  refine q_sg x_40_90 rfl rfl (pc1 := 91) (lv1 := [(7, .int e), (6, .int 12), (0, .ref 448), (1, .int a), (2, .int b), (3, .int c), (4, .int e), (5, .int f)]) (st1 := [.int 0, .int 8, .int 24, .int e, .int 12, .ref 452]) rfl ?_
  refine q_sg x_40_91 rfl rfl (pc1 := 92) (lv1 := [(7, .int e), (6, .int 12), (0, .ref 448), (1, .int a), (2, .int b), (3, .int c), (4, .int e), (5, .int f)]) (st1 := [.int 0, .int 24, .int e, .int 12, .ref 452]) rfl ?_
  refine q_sg x_40_92 rfl rfl (pc1 := 93) (lv1 := [(7, .int e), (6, .int 12), (0, .ref 448), (1, .int a), (2, .int b), (3, .int c), (4, .int e), (5, .int f)]) (st1 := [.int 24, .int e, .int 12, .ref 452]) rfl ?_
  refine q_sg x_40_93 rfl rfl (pc1 := 94) (lv1 := [(7, .int e), (6, .int 12), (0, .ref 448), (1, .int a), (2, .int b), (3, .int c), (4, .int e), (5, .int f)]) (st1 := [.int (e >>> (24 &&& 31)), .int 12, .ref 452]) rfl ?_
  refine q_sg x_40_94 rfl rfl (pc1 := 97) (lv1 := [(7, .int e), (6, .int 12), (0, .ref 448), (1, .int a), (2, .int b), (3, .int c), (4, .int e), (5, .int f)]) (st1 := [.int 255, .int (e >>> (24 &&& 31)), .int 12, .ref 452]) rfl ?_
  refine q_sg x_40_97 rfl rfl (pc1 := 98) (lv1 := [(7, .int e), (6, .int 12), (0, .ref 448), (1, .int a), (2, .int b), (3, .int c), (4, .int e), (5, .int f)]) (st1 := [.int ((e >>> (24 &&& 31)) &&& 255), .int 12, .ref 452]) rfl ?_
  refine q_s_ias x_40_98 (pc1 := 99) rfl (q_ar (m_F1 hG 12 L) rfl) (by decide +kernel) (j := 12) rfl (m_Fa _ _ ((12, ((e >>> (24 &&& 31)) &&& 255)) :: L)) ?_
  refine q_sg x_40_99 rfl rfl (pc1 := 100) (lv1 := [(7, .int e), (6, .int 12), (0, .ref 448), (1, .int a), (2, .int b), (3, .int c), (4, .int e), (5, .int f)]) (st1 := [.ref 448]) rfl ?_
  refine q_sg x_40_100 rfl rfl (pc1 := 101) (lv1 := [(7, .int e), (6, .int 12), (0, .ref 448), (1, .int a), (2, .int b), (3, .int c), (4, .int e), (5, .int f)]) (st1 := [.ref 448, .ref 448]) rfl ?_
  refine q_s_get x_40_101 rfl (pc1 := 104) rfl (ci := 12) (k := 2) (ns := 0) (by decide +kernel) (q_ob (m_F0 hG 12 ((12, ((e >>> (24 &&& 31)) &&& 255)) :: L)) rfl) (v := .int 12) rfl ?_
  refine q_sg x_40_104 rfl rfl (pc1 := 105) (lv1 := [(7, .int e), (6, .int 12), (0, .ref 448), (1, .int a), (2, .int b), (3, .int c), (4, .int e), (5, .int f)]) (st1 := [.int 1, .int 12, .ref 448]) rfl ?_
  refine q_sg x_40_105 rfl rfl (pc1 := 106) (lv1 := [(7, .int e), (6, .int 12), (0, .ref 448), (1, .int a), (2, .int b), (3, .int c), (4, .int e), (5, .int f)]) (st1 := [.int 13, .ref 448]) rfl ?_
  refine q_s_put x_40_106 (pc1 := 109) rfl (ci := 12) (k := 2) (ns := 0) (by decide +kernel) (q_ob (m_F0 hG 12 ((12, ((e >>> (24 &&& 31)) &&& 255)) :: L)) rfl) (by decide +kernel) (m_Fs _ 13 _) ?_
  refine q_sg x_40_109 rfl rfl (pc1 := 112) (lv1 := [(6, .int 13), (7, .int e), (0, .ref 448), (1, .int a), (2, .int b), (3, .int c), (4, .int e), (5, .int f)]) (st1 := []) rfl ?_
  refine q_sg x_40_112 rfl rfl (pc1 := 18) (lv1 := [(6, .int 13), (7, .int e), (0, .ref 448), (1, .int a), (2, .int b), (3, .int c), (4, .int e), (5, .int f)]) (st1 := []) rfl ?_
  exact kk
theorem m_turn13 {G : q_H} (hG : 264 ≤ G.length) {a b c e f : Int32} {L : List (Nat × Int32)} {d n : Nat} (kk : ∀ L1, ∃ E1, q_run (q_callf 4000 d) (q_own 40) (q_maxL 40) (q_ini 40) (q_code 40) (q_ret 40) n 18 [(6, .int 14), (7, .int e), (0, .ref 448), (1, .int a), (2, .int b), (3, .int c), (4, .int e), (5, .int f)] [] (m_F G 14 L1) 0 0 = some (some (.int 20), E1, 0, 0)) : ∃ E1, q_run (q_callf 4000 d) (q_own 40) (q_maxL 40) (q_ini 40) (q_code 40) (q_ret 40) (n + 42) 18 [(6, .int 13), (7, .int e), (0, .ref 448), (1, .int a), (2, .int b), (3, .int c), (4, .int e), (5, .int f)] [] (m_F G 13 L) 0 0 = some (some (.int 20), E1, 0, 0) := by
  obtain ⟨E1, kk⟩ := kk ((13, ((e >>> (16 &&& 31)) &&& 255)) :: L)
  refine ⟨E1, ?_⟩
  refine q_sg x_40_18 rfl rfl (pc1 := 20) (lv1 := [(6, .int 13), (7, .int e), (0, .ref 448), (1, .int a), (2, .int b), (3, .int c), (4, .int e), (5, .int f)]) (st1 := [.int 13]) rfl ?_
  refine q_sg x_40_20 rfl rfl (pc1 := 22) (lv1 := [(6, .int 13), (7, .int e), (0, .ref 448), (1, .int a), (2, .int b), (3, .int c), (4, .int e), (5, .int f)]) (st1 := [.int 20, .int 13]) rfl ?_
  refine q_sg x_40_22 rfl rfl (pc1 := 25) (lv1 := [(6, .int 13), (7, .int e), (0, .ref 448), (1, .int a), (2, .int b), (3, .int c), (4, .int e), (5, .int f)]) (st1 := []) rfl ?_
  refine q_sg x_40_25 rfl rfl (pc1 := 27) (lv1 := [(6, .int 13), (7, .int e), (0, .ref 448), (1, .int a), (2, .int b), (3, .int c), (4, .int e), (5, .int f)]) (st1 := [.int 13]) rfl ?_
  refine q_sg x_40_27 rfl rfl (pc1 := 28) (lv1 := [(6, .int 13), (7, .int e), (0, .ref 448), (1, .int a), (2, .int b), (3, .int c), (4, .int e), (5, .int f)]) (st1 := [.int 4, .int 13]) rfl ?_
  refine q_sg x_40_28 rfl rfl (pc1 := 35) (lv1 := [(6, .int 13), (7, .int e), (0, .ref 448), (1, .int a), (2, .int b), (3, .int c), (4, .int e), (5, .int f)]) (st1 := []) rfl ?_
  refine q_sg x_40_35 rfl rfl (pc1 := 37) (lv1 := [(6, .int 13), (7, .int e), (0, .ref 448), (1, .int a), (2, .int b), (3, .int c), (4, .int e), (5, .int f)]) (st1 := [.int 13]) rfl ?_
  refine q_sg x_40_37 rfl rfl (pc1 := 39) (lv1 := [(6, .int 13), (7, .int e), (0, .ref 448), (1, .int a), (2, .int b), (3, .int c), (4, .int e), (5, .int f)]) (st1 := [.int 8, .int 13]) rfl ?_
  refine q_sg x_40_39 rfl rfl (pc1 := 46) (lv1 := [(6, .int 13), (7, .int e), (0, .ref 448), (1, .int a), (2, .int b), (3, .int c), (4, .int e), (5, .int f)]) (st1 := []) rfl ?_
  refine q_sg x_40_46 rfl rfl (pc1 := 48) (lv1 := [(6, .int 13), (7, .int e), (0, .ref 448), (1, .int a), (2, .int b), (3, .int c), (4, .int e), (5, .int f)]) (st1 := [.int 13]) rfl ?_
  refine q_sg x_40_48 rfl rfl (pc1 := 50) (lv1 := [(6, .int 13), (7, .int e), (0, .ref 448), (1, .int a), (2, .int b), (3, .int c), (4, .int e), (5, .int f)]) (st1 := [.int 12, .int 13]) rfl ?_
  refine q_sg x_40_50 rfl rfl (pc1 := 57) (lv1 := [(6, .int 13), (7, .int e), (0, .ref 448), (1, .int a), (2, .int b), (3, .int c), (4, .int e), (5, .int f)]) (st1 := []) rfl ?_
  refine q_sg x_40_57 rfl rfl (pc1 := 59) (lv1 := [(6, .int 13), (7, .int e), (0, .ref 448), (1, .int a), (2, .int b), (3, .int c), (4, .int e), (5, .int f)]) (st1 := [.int 13]) rfl ?_
  refine q_sg x_40_59 rfl rfl (pc1 := 61) (lv1 := [(6, .int 13), (7, .int e), (0, .ref 448), (1, .int a), (2, .int b), (3, .int c), (4, .int e), (5, .int f)]) (st1 := [.int 16, .int 13]) rfl ?_
  refine q_sg x_40_61 rfl rfl (pc1 := 64) (lv1 := [(6, .int 13), (7, .int e), (0, .ref 448), (1, .int a), (2, .int b), (3, .int c), (4, .int e), (5, .int f)]) (st1 := []) rfl ?_
  refine q_sg x_40_64 rfl rfl (pc1 := 66) (lv1 := [(6, .int 13), (7, .int e), (0, .ref 448), (1, .int a), (2, .int b), (3, .int c), (4, .int e), (5, .int f)]) (st1 := [.int e]) rfl ?_
  refine q_sg x_40_66 rfl rfl (pc1 := 71) (lv1 := [(6, .int 13), (7, .int e), (0, .ref 448), (1, .int a), (2, .int b), (3, .int c), (4, .int e), (5, .int f)]) (st1 := [.int e]) rfl ?_
  refine q_sg x_40_71 rfl rfl (pc1 := 73) (lv1 := [(7, .int e), (6, .int 13), (0, .ref 448), (1, .int a), (2, .int b), (3, .int c), (4, .int e), (5, .int f)]) (st1 := []) rfl ?_
  refine q_sg x_40_73 rfl rfl (pc1 := 74) (lv1 := [(7, .int e), (6, .int 13), (0, .ref 448), (1, .int a), (2, .int b), (3, .int c), (4, .int e), (5, .int f)]) (st1 := [.ref 448]) rfl ?_
  refine q_s_get x_40_74 rfl (pc1 := 77) rfl (ci := 12) (k := 1) (ns := 0) (by decide +kernel) (q_ob (m_F0 hG 13 L) rfl) (v := .ref 452) rfl ?_
  refine q_sg x_40_77 rfl rfl (pc1 := 78) (lv1 := [(7, .int e), (6, .int 13), (0, .ref 448), (1, .int a), (2, .int b), (3, .int c), (4, .int e), (5, .int f)]) (st1 := [.ref 448, .ref 452]) rfl ?_
  refine q_s_get x_40_78 rfl (pc1 := 81) rfl (ci := 12) (k := 2) (ns := 0) (by decide +kernel) (q_ob (m_F0 hG 13 L) rfl) (v := .int 13) rfl ?_
  refine q_sg x_40_81 rfl rfl (pc1 := 83) (lv1 := [(7, .int e), (6, .int 13), (0, .ref 448), (1, .int a), (2, .int b), (3, .int c), (4, .int e), (5, .int f)]) (st1 := [.int e, .int 13, .ref 452]) rfl ?_
  refine q_sg x_40_83 rfl rfl (pc1 := 85) (lv1 := [(7, .int e), (6, .int 13), (0, .ref 448), (1, .int a), (2, .int b), (3, .int c), (4, .int e), (5, .int f)]) (st1 := [.int 24, .int e, .int 13, .ref 452]) rfl ?_
  refine q_sg x_40_85 rfl rfl (pc1 := 87) (lv1 := [(7, .int e), (6, .int 13), (0, .ref 448), (1, .int a), (2, .int b), (3, .int c), (4, .int e), (5, .int f)]) (st1 := [.int 8, .int 24, .int e, .int 13, .ref 452]) rfl ?_
  refine q_sg x_40_87 rfl rfl (pc1 := 89) (lv1 := [(7, .int e), (6, .int 13), (0, .ref 448), (1, .int a), (2, .int b), (3, .int c), (4, .int e), (5, .int f)]) (st1 := [.int 13, .int 8, .int 24, .int e, .int 13, .ref 452]) rfl ?_
  refine q_sg x_40_89 rfl rfl (pc1 := 90) (lv1 := [(7, .int e), (6, .int 13), (0, .ref 448), (1, .int a), (2, .int b), (3, .int c), (4, .int e), (5, .int f)]) (st1 := [.int 4, .int 13, .int 8, .int 24, .int e, .int 13, .ref 452]) rfl ?_
  refine q_sg x_40_90 rfl rfl (pc1 := 91) (lv1 := [(7, .int e), (6, .int 13), (0, .ref 448), (1, .int a), (2, .int b), (3, .int c), (4, .int e), (5, .int f)]) (st1 := [.int 1, .int 8, .int 24, .int e, .int 13, .ref 452]) rfl ?_
  refine q_sg x_40_91 rfl rfl (pc1 := 92) (lv1 := [(7, .int e), (6, .int 13), (0, .ref 448), (1, .int a), (2, .int b), (3, .int c), (4, .int e), (5, .int f)]) (st1 := [.int 8, .int 24, .int e, .int 13, .ref 452]) rfl ?_
  refine q_sg x_40_92 rfl rfl (pc1 := 93) (lv1 := [(7, .int e), (6, .int 13), (0, .ref 448), (1, .int a), (2, .int b), (3, .int c), (4, .int e), (5, .int f)]) (st1 := [.int 16, .int e, .int 13, .ref 452]) rfl ?_
  refine q_sg x_40_93 rfl rfl (pc1 := 94) (lv1 := [(7, .int e), (6, .int 13), (0, .ref 448), (1, .int a), (2, .int b), (3, .int c), (4, .int e), (5, .int f)]) (st1 := [.int (e >>> (16 &&& 31)), .int 13, .ref 452]) rfl ?_
  refine q_sg x_40_94 rfl rfl (pc1 := 97) (lv1 := [(7, .int e), (6, .int 13), (0, .ref 448), (1, .int a), (2, .int b), (3, .int c), (4, .int e), (5, .int f)]) (st1 := [.int 255, .int (e >>> (16 &&& 31)), .int 13, .ref 452]) rfl ?_
  refine q_sg x_40_97 rfl rfl (pc1 := 98) (lv1 := [(7, .int e), (6, .int 13), (0, .ref 448), (1, .int a), (2, .int b), (3, .int c), (4, .int e), (5, .int f)]) (st1 := [.int ((e >>> (16 &&& 31)) &&& 255), .int 13, .ref 452]) rfl ?_
  refine q_s_ias x_40_98 (pc1 := 99) rfl (q_ar (m_F1 hG 13 L) rfl) (by decide +kernel) (j := 13) rfl (m_Fa _ _ ((13, ((e >>> (16 &&& 31)) &&& 255)) :: L)) ?_
  refine q_sg x_40_99 rfl rfl (pc1 := 100) (lv1 := [(7, .int e), (6, .int 13), (0, .ref 448), (1, .int a), (2, .int b), (3, .int c), (4, .int e), (5, .int f)]) (st1 := [.ref 448]) rfl ?_
  refine q_sg x_40_100 rfl rfl (pc1 := 101) (lv1 := [(7, .int e), (6, .int 13), (0, .ref 448), (1, .int a), (2, .int b), (3, .int c), (4, .int e), (5, .int f)]) (st1 := [.ref 448, .ref 448]) rfl ?_
  refine q_s_get x_40_101 rfl (pc1 := 104) rfl (ci := 12) (k := 2) (ns := 0) (by decide +kernel) (q_ob (m_F0 hG 13 ((13, ((e >>> (16 &&& 31)) &&& 255)) :: L)) rfl) (v := .int 13) rfl ?_
  refine q_sg x_40_104 rfl rfl (pc1 := 105) (lv1 := [(7, .int e), (6, .int 13), (0, .ref 448), (1, .int a), (2, .int b), (3, .int c), (4, .int e), (5, .int f)]) (st1 := [.int 1, .int 13, .ref 448]) rfl ?_
  refine q_sg x_40_105 rfl rfl (pc1 := 106) (lv1 := [(7, .int e), (6, .int 13), (0, .ref 448), (1, .int a), (2, .int b), (3, .int c), (4, .int e), (5, .int f)]) (st1 := [.int 14, .ref 448]) rfl ?_
  refine q_s_put x_40_106 (pc1 := 109) rfl (ci := 12) (k := 2) (ns := 0) (by decide +kernel) (q_ob (m_F0 hG 13 ((13, ((e >>> (16 &&& 31)) &&& 255)) :: L)) rfl) (by decide +kernel) (m_Fs _ 14 _) ?_
  refine q_sg x_40_109 rfl rfl (pc1 := 112) (lv1 := [(6, .int 14), (7, .int e), (0, .ref 448), (1, .int a), (2, .int b), (3, .int c), (4, .int e), (5, .int f)]) (st1 := []) rfl ?_
  refine q_sg x_40_112 rfl rfl (pc1 := 18) (lv1 := [(6, .int 14), (7, .int e), (0, .ref 448), (1, .int a), (2, .int b), (3, .int c), (4, .int e), (5, .int f)]) (st1 := []) rfl ?_
  exact kk
theorem m_turn14 {G : q_H} (hG : 264 ≤ G.length) {a b c e f : Int32} {L : List (Nat × Int32)} {d n : Nat} (kk : ∀ L1, ∃ E1, q_run (q_callf 4000 d) (q_own 40) (q_maxL 40) (q_ini 40) (q_code 40) (q_ret 40) n 18 [(6, .int 15), (7, .int e), (0, .ref 448), (1, .int a), (2, .int b), (3, .int c), (4, .int e), (5, .int f)] [] (m_F G 15 L1) 0 0 = some (some (.int 20), E1, 0, 0)) : ∃ E1, q_run (q_callf 4000 d) (q_own 40) (q_maxL 40) (q_ini 40) (q_code 40) (q_ret 40) (n + 42) 18 [(6, .int 14), (7, .int e), (0, .ref 448), (1, .int a), (2, .int b), (3, .int c), (4, .int e), (5, .int f)] [] (m_F G 14 L) 0 0 = some (some (.int 20), E1, 0, 0) := by
  obtain ⟨E1, kk⟩ := kk ((14, ((e >>> (8 &&& 31)) &&& 255)) :: L)
  refine ⟨E1, ?_⟩
  refine q_sg x_40_18 rfl rfl (pc1 := 20) (lv1 := [(6, .int 14), (7, .int e), (0, .ref 448), (1, .int a), (2, .int b), (3, .int c), (4, .int e), (5, .int f)]) (st1 := [.int 14]) rfl ?_
  refine q_sg x_40_20 rfl rfl (pc1 := 22) (lv1 := [(6, .int 14), (7, .int e), (0, .ref 448), (1, .int a), (2, .int b), (3, .int c), (4, .int e), (5, .int f)]) (st1 := [.int 20, .int 14]) rfl ?_
  refine q_sg x_40_22 rfl rfl (pc1 := 25) (lv1 := [(6, .int 14), (7, .int e), (0, .ref 448), (1, .int a), (2, .int b), (3, .int c), (4, .int e), (5, .int f)]) (st1 := []) rfl ?_
  refine q_sg x_40_25 rfl rfl (pc1 := 27) (lv1 := [(6, .int 14), (7, .int e), (0, .ref 448), (1, .int a), (2, .int b), (3, .int c), (4, .int e), (5, .int f)]) (st1 := [.int 14]) rfl ?_
  refine q_sg x_40_27 rfl rfl (pc1 := 28) (lv1 := [(6, .int 14), (7, .int e), (0, .ref 448), (1, .int a), (2, .int b), (3, .int c), (4, .int e), (5, .int f)]) (st1 := [.int 4, .int 14]) rfl ?_
  refine q_sg x_40_28 rfl rfl (pc1 := 35) (lv1 := [(6, .int 14), (7, .int e), (0, .ref 448), (1, .int a), (2, .int b), (3, .int c), (4, .int e), (5, .int f)]) (st1 := []) rfl ?_
  refine q_sg x_40_35 rfl rfl (pc1 := 37) (lv1 := [(6, .int 14), (7, .int e), (0, .ref 448), (1, .int a), (2, .int b), (3, .int c), (4, .int e), (5, .int f)]) (st1 := [.int 14]) rfl ?_
  refine q_sg x_40_37 rfl rfl (pc1 := 39) (lv1 := [(6, .int 14), (7, .int e), (0, .ref 448), (1, .int a), (2, .int b), (3, .int c), (4, .int e), (5, .int f)]) (st1 := [.int 8, .int 14]) rfl ?_
  refine q_sg x_40_39 rfl rfl (pc1 := 46) (lv1 := [(6, .int 14), (7, .int e), (0, .ref 448), (1, .int a), (2, .int b), (3, .int c), (4, .int e), (5, .int f)]) (st1 := []) rfl ?_
  refine q_sg x_40_46 rfl rfl (pc1 := 48) (lv1 := [(6, .int 14), (7, .int e), (0, .ref 448), (1, .int a), (2, .int b), (3, .int c), (4, .int e), (5, .int f)]) (st1 := [.int 14]) rfl ?_
  refine q_sg x_40_48 rfl rfl (pc1 := 50) (lv1 := [(6, .int 14), (7, .int e), (0, .ref 448), (1, .int a), (2, .int b), (3, .int c), (4, .int e), (5, .int f)]) (st1 := [.int 12, .int 14]) rfl ?_
  refine q_sg x_40_50 rfl rfl (pc1 := 57) (lv1 := [(6, .int 14), (7, .int e), (0, .ref 448), (1, .int a), (2, .int b), (3, .int c), (4, .int e), (5, .int f)]) (st1 := []) rfl ?_
  refine q_sg x_40_57 rfl rfl (pc1 := 59) (lv1 := [(6, .int 14), (7, .int e), (0, .ref 448), (1, .int a), (2, .int b), (3, .int c), (4, .int e), (5, .int f)]) (st1 := [.int 14]) rfl ?_
  refine q_sg x_40_59 rfl rfl (pc1 := 61) (lv1 := [(6, .int 14), (7, .int e), (0, .ref 448), (1, .int a), (2, .int b), (3, .int c), (4, .int e), (5, .int f)]) (st1 := [.int 16, .int 14]) rfl ?_
  refine q_sg x_40_61 rfl rfl (pc1 := 64) (lv1 := [(6, .int 14), (7, .int e), (0, .ref 448), (1, .int a), (2, .int b), (3, .int c), (4, .int e), (5, .int f)]) (st1 := []) rfl ?_
  refine q_sg x_40_64 rfl rfl (pc1 := 66) (lv1 := [(6, .int 14), (7, .int e), (0, .ref 448), (1, .int a), (2, .int b), (3, .int c), (4, .int e), (5, .int f)]) (st1 := [.int e]) rfl ?_
  refine q_sg x_40_66 rfl rfl (pc1 := 71) (lv1 := [(6, .int 14), (7, .int e), (0, .ref 448), (1, .int a), (2, .int b), (3, .int c), (4, .int e), (5, .int f)]) (st1 := [.int e]) rfl ?_
  refine q_sg x_40_71 rfl rfl (pc1 := 73) (lv1 := [(7, .int e), (6, .int 14), (0, .ref 448), (1, .int a), (2, .int b), (3, .int c), (4, .int e), (5, .int f)]) (st1 := []) rfl ?_
  refine q_sg x_40_73 rfl rfl (pc1 := 74) (lv1 := [(7, .int e), (6, .int 14), (0, .ref 448), (1, .int a), (2, .int b), (3, .int c), (4, .int e), (5, .int f)]) (st1 := [.ref 448]) rfl ?_
  refine q_s_get x_40_74 rfl (pc1 := 77) rfl (ci := 12) (k := 1) (ns := 0) (by decide +kernel) (q_ob (m_F0 hG 14 L) rfl) (v := .ref 452) rfl ?_
  refine q_sg x_40_77 rfl rfl (pc1 := 78) (lv1 := [(7, .int e), (6, .int 14), (0, .ref 448), (1, .int a), (2, .int b), (3, .int c), (4, .int e), (5, .int f)]) (st1 := [.ref 448, .ref 452]) rfl ?_
  refine q_s_get x_40_78 rfl (pc1 := 81) rfl (ci := 12) (k := 2) (ns := 0) (by decide +kernel) (q_ob (m_F0 hG 14 L) rfl) (v := .int 14) rfl ?_
  refine q_sg x_40_81 rfl rfl (pc1 := 83) (lv1 := [(7, .int e), (6, .int 14), (0, .ref 448), (1, .int a), (2, .int b), (3, .int c), (4, .int e), (5, .int f)]) (st1 := [.int e, .int 14, .ref 452]) rfl ?_
  refine q_sg x_40_83 rfl rfl (pc1 := 85) (lv1 := [(7, .int e), (6, .int 14), (0, .ref 448), (1, .int a), (2, .int b), (3, .int c), (4, .int e), (5, .int f)]) (st1 := [.int 24, .int e, .int 14, .ref 452]) rfl ?_
  refine q_sg x_40_85 rfl rfl (pc1 := 87) (lv1 := [(7, .int e), (6, .int 14), (0, .ref 448), (1, .int a), (2, .int b), (3, .int c), (4, .int e), (5, .int f)]) (st1 := [.int 8, .int 24, .int e, .int 14, .ref 452]) rfl ?_
  refine q_sg x_40_87 rfl rfl (pc1 := 89) (lv1 := [(7, .int e), (6, .int 14), (0, .ref 448), (1, .int a), (2, .int b), (3, .int c), (4, .int e), (5, .int f)]) (st1 := [.int 14, .int 8, .int 24, .int e, .int 14, .ref 452]) rfl ?_
  refine q_sg x_40_89 rfl rfl (pc1 := 90) (lv1 := [(7, .int e), (6, .int 14), (0, .ref 448), (1, .int a), (2, .int b), (3, .int c), (4, .int e), (5, .int f)]) (st1 := [.int 4, .int 14, .int 8, .int 24, .int e, .int 14, .ref 452]) rfl ?_
  refine q_sg x_40_90 rfl rfl (pc1 := 91) (lv1 := [(7, .int e), (6, .int 14), (0, .ref 448), (1, .int a), (2, .int b), (3, .int c), (4, .int e), (5, .int f)]) (st1 := [.int 2, .int 8, .int 24, .int e, .int 14, .ref 452]) rfl ?_
  refine q_sg x_40_91 rfl rfl (pc1 := 92) (lv1 := [(7, .int e), (6, .int 14), (0, .ref 448), (1, .int a), (2, .int b), (3, .int c), (4, .int e), (5, .int f)]) (st1 := [.int 16, .int 24, .int e, .int 14, .ref 452]) rfl ?_
  refine q_sg x_40_92 rfl rfl (pc1 := 93) (lv1 := [(7, .int e), (6, .int 14), (0, .ref 448), (1, .int a), (2, .int b), (3, .int c), (4, .int e), (5, .int f)]) (st1 := [.int 8, .int e, .int 14, .ref 452]) rfl ?_
  refine q_sg x_40_93 rfl rfl (pc1 := 94) (lv1 := [(7, .int e), (6, .int 14), (0, .ref 448), (1, .int a), (2, .int b), (3, .int c), (4, .int e), (5, .int f)]) (st1 := [.int (e >>> (8 &&& 31)), .int 14, .ref 452]) rfl ?_
  refine q_sg x_40_94 rfl rfl (pc1 := 97) (lv1 := [(7, .int e), (6, .int 14), (0, .ref 448), (1, .int a), (2, .int b), (3, .int c), (4, .int e), (5, .int f)]) (st1 := [.int 255, .int (e >>> (8 &&& 31)), .int 14, .ref 452]) rfl ?_
  refine q_sg x_40_97 rfl rfl (pc1 := 98) (lv1 := [(7, .int e), (6, .int 14), (0, .ref 448), (1, .int a), (2, .int b), (3, .int c), (4, .int e), (5, .int f)]) (st1 := [.int ((e >>> (8 &&& 31)) &&& 255), .int 14, .ref 452]) rfl ?_
  refine q_s_ias x_40_98 (pc1 := 99) rfl (q_ar (m_F1 hG 14 L) rfl) (by decide +kernel) (j := 14) rfl (m_Fa _ _ ((14, ((e >>> (8 &&& 31)) &&& 255)) :: L)) ?_
  refine q_sg x_40_99 rfl rfl (pc1 := 100) (lv1 := [(7, .int e), (6, .int 14), (0, .ref 448), (1, .int a), (2, .int b), (3, .int c), (4, .int e), (5, .int f)]) (st1 := [.ref 448]) rfl ?_
  refine q_sg x_40_100 rfl rfl (pc1 := 101) (lv1 := [(7, .int e), (6, .int 14), (0, .ref 448), (1, .int a), (2, .int b), (3, .int c), (4, .int e), (5, .int f)]) (st1 := [.ref 448, .ref 448]) rfl ?_
  refine q_s_get x_40_101 rfl (pc1 := 104) rfl (ci := 12) (k := 2) (ns := 0) (by decide +kernel) (q_ob (m_F0 hG 14 ((14, ((e >>> (8 &&& 31)) &&& 255)) :: L)) rfl) (v := .int 14) rfl ?_
  refine q_sg x_40_104 rfl rfl (pc1 := 105) (lv1 := [(7, .int e), (6, .int 14), (0, .ref 448), (1, .int a), (2, .int b), (3, .int c), (4, .int e), (5, .int f)]) (st1 := [.int 1, .int 14, .ref 448]) rfl ?_
  refine q_sg x_40_105 rfl rfl (pc1 := 106) (lv1 := [(7, .int e), (6, .int 14), (0, .ref 448), (1, .int a), (2, .int b), (3, .int c), (4, .int e), (5, .int f)]) (st1 := [.int 15, .ref 448]) rfl ?_
  refine q_s_put x_40_106 (pc1 := 109) rfl (ci := 12) (k := 2) (ns := 0) (by decide +kernel) (q_ob (m_F0 hG 14 ((14, ((e >>> (8 &&& 31)) &&& 255)) :: L)) rfl) (by decide +kernel) (m_Fs _ 15 _) ?_
  refine q_sg x_40_109 rfl rfl (pc1 := 112) (lv1 := [(6, .int 15), (7, .int e), (0, .ref 448), (1, .int a), (2, .int b), (3, .int c), (4, .int e), (5, .int f)]) (st1 := []) rfl ?_
  refine q_sg x_40_112 rfl rfl (pc1 := 18) (lv1 := [(6, .int 15), (7, .int e), (0, .ref 448), (1, .int a), (2, .int b), (3, .int c), (4, .int e), (5, .int f)]) (st1 := []) rfl ?_
  exact kk
theorem m_turn15 {G : q_H} (hG : 264 ≤ G.length) {a b c e f : Int32} {L : List (Nat × Int32)} {d n : Nat} (kk : ∀ L1, ∃ E1, q_run (q_callf 4000 d) (q_own 40) (q_maxL 40) (q_ini 40) (q_code 40) (q_ret 40) n 18 [(6, .int 16), (7, .int e), (0, .ref 448), (1, .int a), (2, .int b), (3, .int c), (4, .int e), (5, .int f)] [] (m_F G 16 L1) 0 0 = some (some (.int 20), E1, 0, 0)) : ∃ E1, q_run (q_callf 4000 d) (q_own 40) (q_maxL 40) (q_ini 40) (q_code 40) (q_ret 40) (n + 42) 18 [(6, .int 15), (7, .int e), (0, .ref 448), (1, .int a), (2, .int b), (3, .int c), (4, .int e), (5, .int f)] [] (m_F G 15 L) 0 0 = some (some (.int 20), E1, 0, 0) := by
  obtain ⟨E1, kk⟩ := kk ((15, ((e >>> (0 &&& 31)) &&& 255)) :: L)
  refine ⟨E1, ?_⟩
  refine q_sg x_40_18 rfl rfl (pc1 := 20) (lv1 := [(6, .int 15), (7, .int e), (0, .ref 448), (1, .int a), (2, .int b), (3, .int c), (4, .int e), (5, .int f)]) (st1 := [.int 15]) rfl ?_
  refine q_sg x_40_20 rfl rfl (pc1 := 22) (lv1 := [(6, .int 15), (7, .int e), (0, .ref 448), (1, .int a), (2, .int b), (3, .int c), (4, .int e), (5, .int f)]) (st1 := [.int 20, .int 15]) rfl ?_
  refine q_sg x_40_22 rfl rfl (pc1 := 25) (lv1 := [(6, .int 15), (7, .int e), (0, .ref 448), (1, .int a), (2, .int b), (3, .int c), (4, .int e), (5, .int f)]) (st1 := []) rfl ?_
  refine q_sg x_40_25 rfl rfl (pc1 := 27) (lv1 := [(6, .int 15), (7, .int e), (0, .ref 448), (1, .int a), (2, .int b), (3, .int c), (4, .int e), (5, .int f)]) (st1 := [.int 15]) rfl ?_
  refine q_sg x_40_27 rfl rfl (pc1 := 28) (lv1 := [(6, .int 15), (7, .int e), (0, .ref 448), (1, .int a), (2, .int b), (3, .int c), (4, .int e), (5, .int f)]) (st1 := [.int 4, .int 15]) rfl ?_
  refine q_sg x_40_28 rfl rfl (pc1 := 35) (lv1 := [(6, .int 15), (7, .int e), (0, .ref 448), (1, .int a), (2, .int b), (3, .int c), (4, .int e), (5, .int f)]) (st1 := []) rfl ?_
  refine q_sg x_40_35 rfl rfl (pc1 := 37) (lv1 := [(6, .int 15), (7, .int e), (0, .ref 448), (1, .int a), (2, .int b), (3, .int c), (4, .int e), (5, .int f)]) (st1 := [.int 15]) rfl ?_
  refine q_sg x_40_37 rfl rfl (pc1 := 39) (lv1 := [(6, .int 15), (7, .int e), (0, .ref 448), (1, .int a), (2, .int b), (3, .int c), (4, .int e), (5, .int f)]) (st1 := [.int 8, .int 15]) rfl ?_
  refine q_sg x_40_39 rfl rfl (pc1 := 46) (lv1 := [(6, .int 15), (7, .int e), (0, .ref 448), (1, .int a), (2, .int b), (3, .int c), (4, .int e), (5, .int f)]) (st1 := []) rfl ?_
  refine q_sg x_40_46 rfl rfl (pc1 := 48) (lv1 := [(6, .int 15), (7, .int e), (0, .ref 448), (1, .int a), (2, .int b), (3, .int c), (4, .int e), (5, .int f)]) (st1 := [.int 15]) rfl ?_
  refine q_sg x_40_48 rfl rfl (pc1 := 50) (lv1 := [(6, .int 15), (7, .int e), (0, .ref 448), (1, .int a), (2, .int b), (3, .int c), (4, .int e), (5, .int f)]) (st1 := [.int 12, .int 15]) rfl ?_
  refine q_sg x_40_50 rfl rfl (pc1 := 57) (lv1 := [(6, .int 15), (7, .int e), (0, .ref 448), (1, .int a), (2, .int b), (3, .int c), (4, .int e), (5, .int f)]) (st1 := []) rfl ?_
  refine q_sg x_40_57 rfl rfl (pc1 := 59) (lv1 := [(6, .int 15), (7, .int e), (0, .ref 448), (1, .int a), (2, .int b), (3, .int c), (4, .int e), (5, .int f)]) (st1 := [.int 15]) rfl ?_
  refine q_sg x_40_59 rfl rfl (pc1 := 61) (lv1 := [(6, .int 15), (7, .int e), (0, .ref 448), (1, .int a), (2, .int b), (3, .int c), (4, .int e), (5, .int f)]) (st1 := [.int 16, .int 15]) rfl ?_
  refine q_sg x_40_61 rfl rfl (pc1 := 64) (lv1 := [(6, .int 15), (7, .int e), (0, .ref 448), (1, .int a), (2, .int b), (3, .int c), (4, .int e), (5, .int f)]) (st1 := []) rfl ?_
  refine q_sg x_40_64 rfl rfl (pc1 := 66) (lv1 := [(6, .int 15), (7, .int e), (0, .ref 448), (1, .int a), (2, .int b), (3, .int c), (4, .int e), (5, .int f)]) (st1 := [.int e]) rfl ?_
  refine q_sg x_40_66 rfl rfl (pc1 := 71) (lv1 := [(6, .int 15), (7, .int e), (0, .ref 448), (1, .int a), (2, .int b), (3, .int c), (4, .int e), (5, .int f)]) (st1 := [.int e]) rfl ?_
  refine q_sg x_40_71 rfl rfl (pc1 := 73) (lv1 := [(7, .int e), (6, .int 15), (0, .ref 448), (1, .int a), (2, .int b), (3, .int c), (4, .int e), (5, .int f)]) (st1 := []) rfl ?_
  refine q_sg x_40_73 rfl rfl (pc1 := 74) (lv1 := [(7, .int e), (6, .int 15), (0, .ref 448), (1, .int a), (2, .int b), (3, .int c), (4, .int e), (5, .int f)]) (st1 := [.ref 448]) rfl ?_
  refine q_s_get x_40_74 rfl (pc1 := 77) rfl (ci := 12) (k := 1) (ns := 0) (by decide +kernel) (q_ob (m_F0 hG 15 L) rfl) (v := .ref 452) rfl ?_
  refine q_sg x_40_77 rfl rfl (pc1 := 78) (lv1 := [(7, .int e), (6, .int 15), (0, .ref 448), (1, .int a), (2, .int b), (3, .int c), (4, .int e), (5, .int f)]) (st1 := [.ref 448, .ref 452]) rfl ?_
  refine q_s_get x_40_78 rfl (pc1 := 81) rfl (ci := 12) (k := 2) (ns := 0) (by decide +kernel) (q_ob (m_F0 hG 15 L) rfl) (v := .int 15) rfl ?_
  refine q_sg x_40_81 rfl rfl (pc1 := 83) (lv1 := [(7, .int e), (6, .int 15), (0, .ref 448), (1, .int a), (2, .int b), (3, .int c), (4, .int e), (5, .int f)]) (st1 := [.int e, .int 15, .ref 452]) rfl ?_
  refine q_sg x_40_83 rfl rfl (pc1 := 85) (lv1 := [(7, .int e), (6, .int 15), (0, .ref 448), (1, .int a), (2, .int b), (3, .int c), (4, .int e), (5, .int f)]) (st1 := [.int 24, .int e, .int 15, .ref 452]) rfl ?_
  refine q_sg x_40_85 rfl rfl (pc1 := 87) (lv1 := [(7, .int e), (6, .int 15), (0, .ref 448), (1, .int a), (2, .int b), (3, .int c), (4, .int e), (5, .int f)]) (st1 := [.int 8, .int 24, .int e, .int 15, .ref 452]) rfl ?_
  refine q_sg x_40_87 rfl rfl (pc1 := 89) (lv1 := [(7, .int e), (6, .int 15), (0, .ref 448), (1, .int a), (2, .int b), (3, .int c), (4, .int e), (5, .int f)]) (st1 := [.int 15, .int 8, .int 24, .int e, .int 15, .ref 452]) rfl ?_
  refine q_sg x_40_89 rfl rfl (pc1 := 90) (lv1 := [(7, .int e), (6, .int 15), (0, .ref 448), (1, .int a), (2, .int b), (3, .int c), (4, .int e), (5, .int f)]) (st1 := [.int 4, .int 15, .int 8, .int 24, .int e, .int 15, .ref 452]) rfl ?_
  refine q_sg x_40_90 rfl rfl (pc1 := 91) (lv1 := [(7, .int e), (6, .int 15), (0, .ref 448), (1, .int a), (2, .int b), (3, .int c), (4, .int e), (5, .int f)]) (st1 := [.int 3, .int 8, .int 24, .int e, .int 15, .ref 452]) rfl ?_
  refine q_sg x_40_91 rfl rfl (pc1 := 92) (lv1 := [(7, .int e), (6, .int 15), (0, .ref 448), (1, .int a), (2, .int b), (3, .int c), (4, .int e), (5, .int f)]) (st1 := [.int 24, .int 24, .int e, .int 15, .ref 452]) rfl ?_
  refine q_sg x_40_92 rfl rfl (pc1 := 93) (lv1 := [(7, .int e), (6, .int 15), (0, .ref 448), (1, .int a), (2, .int b), (3, .int c), (4, .int e), (5, .int f)]) (st1 := [.int 0, .int e, .int 15, .ref 452]) rfl ?_
  refine q_sg x_40_93 rfl rfl (pc1 := 94) (lv1 := [(7, .int e), (6, .int 15), (0, .ref 448), (1, .int a), (2, .int b), (3, .int c), (4, .int e), (5, .int f)]) (st1 := [.int (e >>> (0 &&& 31)), .int 15, .ref 452]) rfl ?_
  refine q_sg x_40_94 rfl rfl (pc1 := 97) (lv1 := [(7, .int e), (6, .int 15), (0, .ref 448), (1, .int a), (2, .int b), (3, .int c), (4, .int e), (5, .int f)]) (st1 := [.int 255, .int (e >>> (0 &&& 31)), .int 15, .ref 452]) rfl ?_
  refine q_sg x_40_97 rfl rfl (pc1 := 98) (lv1 := [(7, .int e), (6, .int 15), (0, .ref 448), (1, .int a), (2, .int b), (3, .int c), (4, .int e), (5, .int f)]) (st1 := [.int ((e >>> (0 &&& 31)) &&& 255), .int 15, .ref 452]) rfl ?_
  refine q_s_ias x_40_98 (pc1 := 99) rfl (q_ar (m_F1 hG 15 L) rfl) (by decide +kernel) (j := 15) rfl (m_Fa _ _ ((15, ((e >>> (0 &&& 31)) &&& 255)) :: L)) ?_
  refine q_sg x_40_99 rfl rfl (pc1 := 100) (lv1 := [(7, .int e), (6, .int 15), (0, .ref 448), (1, .int a), (2, .int b), (3, .int c), (4, .int e), (5, .int f)]) (st1 := [.ref 448]) rfl ?_
  refine q_sg x_40_100 rfl rfl (pc1 := 101) (lv1 := [(7, .int e), (6, .int 15), (0, .ref 448), (1, .int a), (2, .int b), (3, .int c), (4, .int e), (5, .int f)]) (st1 := [.ref 448, .ref 448]) rfl ?_
  refine q_s_get x_40_101 rfl (pc1 := 104) rfl (ci := 12) (k := 2) (ns := 0) (by decide +kernel) (q_ob (m_F0 hG 15 ((15, ((e >>> (0 &&& 31)) &&& 255)) :: L)) rfl) (v := .int 15) rfl ?_
  refine q_sg x_40_104 rfl rfl (pc1 := 105) (lv1 := [(7, .int e), (6, .int 15), (0, .ref 448), (1, .int a), (2, .int b), (3, .int c), (4, .int e), (5, .int f)]) (st1 := [.int 1, .int 15, .ref 448]) rfl ?_
  refine q_sg x_40_105 rfl rfl (pc1 := 106) (lv1 := [(7, .int e), (6, .int 15), (0, .ref 448), (1, .int a), (2, .int b), (3, .int c), (4, .int e), (5, .int f)]) (st1 := [.int 16, .ref 448]) rfl ?_
  refine q_s_put x_40_106 (pc1 := 109) rfl (ci := 12) (k := 2) (ns := 0) (by decide +kernel) (q_ob (m_F0 hG 15 ((15, ((e >>> (0 &&& 31)) &&& 255)) :: L)) rfl) (by decide +kernel) (m_Fs _ 16 _) ?_
  refine q_sg x_40_109 rfl rfl (pc1 := 112) (lv1 := [(6, .int 16), (7, .int e), (0, .ref 448), (1, .int a), (2, .int b), (3, .int c), (4, .int e), (5, .int f)]) (st1 := []) rfl ?_
  refine q_sg x_40_112 rfl rfl (pc1 := 18) (lv1 := [(6, .int 16), (7, .int e), (0, .ref 448), (1, .int a), (2, .int b), (3, .int c), (4, .int e), (5, .int f)]) (st1 := []) rfl ?_
  exact kk
theorem m_turn16 {G : q_H} (hG : 264 ≤ G.length) {a b c e f : Int32} {L : List (Nat × Int32)} {d n : Nat} (kk : ∀ L1, ∃ E1, q_run (q_callf 4000 d) (q_own 40) (q_maxL 40) (q_ini 40) (q_code 40) (q_ret 40) n 18 [(6, .int 17), (7, .int f), (0, .ref 448), (1, .int a), (2, .int b), (3, .int c), (4, .int e), (5, .int f)] [] (m_F G 17 L1) 0 0 = some (some (.int 20), E1, 0, 0)) : ∃ E1, q_run (q_callf 4000 d) (q_own 40) (q_maxL 40) (q_ini 40) (q_code 40) (q_ret 40) (n + 41) 18 [(6, .int 16), (7, .int e), (0, .ref 448), (1, .int a), (2, .int b), (3, .int c), (4, .int e), (5, .int f)] [] (m_F G 16 L) 0 0 = some (some (.int 20), E1, 0, 0) := by
  obtain ⟨E1, kk⟩ := kk ((16, ((f >>> (24 &&& 31)) &&& 255)) :: L)
  refine ⟨E1, ?_⟩
  refine q_sg x_40_18 rfl rfl (pc1 := 20) (lv1 := [(6, .int 16), (7, .int e), (0, .ref 448), (1, .int a), (2, .int b), (3, .int c), (4, .int e), (5, .int f)]) (st1 := [.int 16]) rfl ?_
  refine q_sg x_40_20 rfl rfl (pc1 := 22) (lv1 := [(6, .int 16), (7, .int e), (0, .ref 448), (1, .int a), (2, .int b), (3, .int c), (4, .int e), (5, .int f)]) (st1 := [.int 20, .int 16]) rfl ?_
  refine q_sg x_40_22 rfl rfl (pc1 := 25) (lv1 := [(6, .int 16), (7, .int e), (0, .ref 448), (1, .int a), (2, .int b), (3, .int c), (4, .int e), (5, .int f)]) (st1 := []) rfl ?_
  refine q_sg x_40_25 rfl rfl (pc1 := 27) (lv1 := [(6, .int 16), (7, .int e), (0, .ref 448), (1, .int a), (2, .int b), (3, .int c), (4, .int e), (5, .int f)]) (st1 := [.int 16]) rfl ?_
  refine q_sg x_40_27 rfl rfl (pc1 := 28) (lv1 := [(6, .int 16), (7, .int e), (0, .ref 448), (1, .int a), (2, .int b), (3, .int c), (4, .int e), (5, .int f)]) (st1 := [.int 4, .int 16]) rfl ?_
  refine q_sg x_40_28 rfl rfl (pc1 := 35) (lv1 := [(6, .int 16), (7, .int e), (0, .ref 448), (1, .int a), (2, .int b), (3, .int c), (4, .int e), (5, .int f)]) (st1 := []) rfl ?_
  refine q_sg x_40_35 rfl rfl (pc1 := 37) (lv1 := [(6, .int 16), (7, .int e), (0, .ref 448), (1, .int a), (2, .int b), (3, .int c), (4, .int e), (5, .int f)]) (st1 := [.int 16]) rfl ?_
  refine q_sg x_40_37 rfl rfl (pc1 := 39) (lv1 := [(6, .int 16), (7, .int e), (0, .ref 448), (1, .int a), (2, .int b), (3, .int c), (4, .int e), (5, .int f)]) (st1 := [.int 8, .int 16]) rfl ?_
  refine q_sg x_40_39 rfl rfl (pc1 := 46) (lv1 := [(6, .int 16), (7, .int e), (0, .ref 448), (1, .int a), (2, .int b), (3, .int c), (4, .int e), (5, .int f)]) (st1 := []) rfl ?_
  refine q_sg x_40_46 rfl rfl (pc1 := 48) (lv1 := [(6, .int 16), (7, .int e), (0, .ref 448), (1, .int a), (2, .int b), (3, .int c), (4, .int e), (5, .int f)]) (st1 := [.int 16]) rfl ?_
  refine q_sg x_40_48 rfl rfl (pc1 := 50) (lv1 := [(6, .int 16), (7, .int e), (0, .ref 448), (1, .int a), (2, .int b), (3, .int c), (4, .int e), (5, .int f)]) (st1 := [.int 12, .int 16]) rfl ?_
  refine q_sg x_40_50 rfl rfl (pc1 := 57) (lv1 := [(6, .int 16), (7, .int e), (0, .ref 448), (1, .int a), (2, .int b), (3, .int c), (4, .int e), (5, .int f)]) (st1 := []) rfl ?_
  refine q_sg x_40_57 rfl rfl (pc1 := 59) (lv1 := [(6, .int 16), (7, .int e), (0, .ref 448), (1, .int a), (2, .int b), (3, .int c), (4, .int e), (5, .int f)]) (st1 := [.int 16]) rfl ?_
  refine q_sg x_40_59 rfl rfl (pc1 := 61) (lv1 := [(6, .int 16), (7, .int e), (0, .ref 448), (1, .int a), (2, .int b), (3, .int c), (4, .int e), (5, .int f)]) (st1 := [.int 16, .int 16]) rfl ?_
  refine q_sg x_40_61 rfl rfl (pc1 := 69) (lv1 := [(6, .int 16), (7, .int e), (0, .ref 448), (1, .int a), (2, .int b), (3, .int c), (4, .int e), (5, .int f)]) (st1 := []) rfl ?_
  refine q_sg x_40_69 rfl rfl (pc1 := 71) (lv1 := [(6, .int 16), (7, .int e), (0, .ref 448), (1, .int a), (2, .int b), (3, .int c), (4, .int e), (5, .int f)]) (st1 := [.int f]) rfl ?_
  refine q_sg x_40_71 rfl rfl (pc1 := 73) (lv1 := [(7, .int f), (6, .int 16), (0, .ref 448), (1, .int a), (2, .int b), (3, .int c), (4, .int e), (5, .int f)]) (st1 := []) rfl ?_
  refine q_sg x_40_73 rfl rfl (pc1 := 74) (lv1 := [(7, .int f), (6, .int 16), (0, .ref 448), (1, .int a), (2, .int b), (3, .int c), (4, .int e), (5, .int f)]) (st1 := [.ref 448]) rfl ?_
  refine q_s_get x_40_74 rfl (pc1 := 77) rfl (ci := 12) (k := 1) (ns := 0) (by decide +kernel) (q_ob (m_F0 hG 16 L) rfl) (v := .ref 452) rfl ?_
  refine q_sg x_40_77 rfl rfl (pc1 := 78) (lv1 := [(7, .int f), (6, .int 16), (0, .ref 448), (1, .int a), (2, .int b), (3, .int c), (4, .int e), (5, .int f)]) (st1 := [.ref 448, .ref 452]) rfl ?_
  refine q_s_get x_40_78 rfl (pc1 := 81) rfl (ci := 12) (k := 2) (ns := 0) (by decide +kernel) (q_ob (m_F0 hG 16 L) rfl) (v := .int 16) rfl ?_
  refine q_sg x_40_81 rfl rfl (pc1 := 83) (lv1 := [(7, .int f), (6, .int 16), (0, .ref 448), (1, .int a), (2, .int b), (3, .int c), (4, .int e), (5, .int f)]) (st1 := [.int f, .int 16, .ref 452]) rfl ?_
  refine q_sg x_40_83 rfl rfl (pc1 := 85) (lv1 := [(7, .int f), (6, .int 16), (0, .ref 448), (1, .int a), (2, .int b), (3, .int c), (4, .int e), (5, .int f)]) (st1 := [.int 24, .int f, .int 16, .ref 452]) rfl ?_
  refine q_sg x_40_85 rfl rfl (pc1 := 87) (lv1 := [(7, .int f), (6, .int 16), (0, .ref 448), (1, .int a), (2, .int b), (3, .int c), (4, .int e), (5, .int f)]) (st1 := [.int 8, .int 24, .int f, .int 16, .ref 452]) rfl ?_
  refine q_sg x_40_87 rfl rfl (pc1 := 89) (lv1 := [(7, .int f), (6, .int 16), (0, .ref 448), (1, .int a), (2, .int b), (3, .int c), (4, .int e), (5, .int f)]) (st1 := [.int 16, .int 8, .int 24, .int f, .int 16, .ref 452]) rfl ?_
  refine q_sg x_40_89 rfl rfl (pc1 := 90) (lv1 := [(7, .int f), (6, .int 16), (0, .ref 448), (1, .int a), (2, .int b), (3, .int c), (4, .int e), (5, .int f)]) (st1 := [.int 4, .int 16, .int 8, .int 24, .int f, .int 16, .ref 452]) rfl ?_
  refine q_sg x_40_90 rfl rfl (pc1 := 91) (lv1 := [(7, .int f), (6, .int 16), (0, .ref 448), (1, .int a), (2, .int b), (3, .int c), (4, .int e), (5, .int f)]) (st1 := [.int 0, .int 8, .int 24, .int f, .int 16, .ref 452]) rfl ?_
  refine q_sg x_40_91 rfl rfl (pc1 := 92) (lv1 := [(7, .int f), (6, .int 16), (0, .ref 448), (1, .int a), (2, .int b), (3, .int c), (4, .int e), (5, .int f)]) (st1 := [.int 0, .int 24, .int f, .int 16, .ref 452]) rfl ?_
  refine q_sg x_40_92 rfl rfl (pc1 := 93) (lv1 := [(7, .int f), (6, .int 16), (0, .ref 448), (1, .int a), (2, .int b), (3, .int c), (4, .int e), (5, .int f)]) (st1 := [.int 24, .int f, .int 16, .ref 452]) rfl ?_
  refine q_sg x_40_93 rfl rfl (pc1 := 94) (lv1 := [(7, .int f), (6, .int 16), (0, .ref 448), (1, .int a), (2, .int b), (3, .int c), (4, .int e), (5, .int f)]) (st1 := [.int (f >>> (24 &&& 31)), .int 16, .ref 452]) rfl ?_
  refine q_sg x_40_94 rfl rfl (pc1 := 97) (lv1 := [(7, .int f), (6, .int 16), (0, .ref 448), (1, .int a), (2, .int b), (3, .int c), (4, .int e), (5, .int f)]) (st1 := [.int 255, .int (f >>> (24 &&& 31)), .int 16, .ref 452]) rfl ?_
  refine q_sg x_40_97 rfl rfl (pc1 := 98) (lv1 := [(7, .int f), (6, .int 16), (0, .ref 448), (1, .int a), (2, .int b), (3, .int c), (4, .int e), (5, .int f)]) (st1 := [.int ((f >>> (24 &&& 31)) &&& 255), .int 16, .ref 452]) rfl ?_
  refine q_s_ias x_40_98 (pc1 := 99) rfl (q_ar (m_F1 hG 16 L) rfl) (by decide +kernel) (j := 16) rfl (m_Fa _ _ ((16, ((f >>> (24 &&& 31)) &&& 255)) :: L)) ?_
  refine q_sg x_40_99 rfl rfl (pc1 := 100) (lv1 := [(7, .int f), (6, .int 16), (0, .ref 448), (1, .int a), (2, .int b), (3, .int c), (4, .int e), (5, .int f)]) (st1 := [.ref 448]) rfl ?_
  refine q_sg x_40_100 rfl rfl (pc1 := 101) (lv1 := [(7, .int f), (6, .int 16), (0, .ref 448), (1, .int a), (2, .int b), (3, .int c), (4, .int e), (5, .int f)]) (st1 := [.ref 448, .ref 448]) rfl ?_
  refine q_s_get x_40_101 rfl (pc1 := 104) rfl (ci := 12) (k := 2) (ns := 0) (by decide +kernel) (q_ob (m_F0 hG 16 ((16, ((f >>> (24 &&& 31)) &&& 255)) :: L)) rfl) (v := .int 16) rfl ?_
  refine q_sg x_40_104 rfl rfl (pc1 := 105) (lv1 := [(7, .int f), (6, .int 16), (0, .ref 448), (1, .int a), (2, .int b), (3, .int c), (4, .int e), (5, .int f)]) (st1 := [.int 1, .int 16, .ref 448]) rfl ?_
  refine q_sg x_40_105 rfl rfl (pc1 := 106) (lv1 := [(7, .int f), (6, .int 16), (0, .ref 448), (1, .int a), (2, .int b), (3, .int c), (4, .int e), (5, .int f)]) (st1 := [.int 17, .ref 448]) rfl ?_
  refine q_s_put x_40_106 (pc1 := 109) rfl (ci := 12) (k := 2) (ns := 0) (by decide +kernel) (q_ob (m_F0 hG 16 ((16, ((f >>> (24 &&& 31)) &&& 255)) :: L)) rfl) (by decide +kernel) (m_Fs _ 17 _) ?_
  refine q_sg x_40_109 rfl rfl (pc1 := 112) (lv1 := [(6, .int 17), (7, .int f), (0, .ref 448), (1, .int a), (2, .int b), (3, .int c), (4, .int e), (5, .int f)]) (st1 := []) rfl ?_
  refine q_sg x_40_112 rfl rfl (pc1 := 18) (lv1 := [(6, .int 17), (7, .int f), (0, .ref 448), (1, .int a), (2, .int b), (3, .int c), (4, .int e), (5, .int f)]) (st1 := []) rfl ?_
  exact kk
theorem m_turn17 {G : q_H} (hG : 264 ≤ G.length) {a b c e f : Int32} {L : List (Nat × Int32)} {d n : Nat} (kk : ∀ L1, ∃ E1, q_run (q_callf 4000 d) (q_own 40) (q_maxL 40) (q_ini 40) (q_code 40) (q_ret 40) n 18 [(6, .int 18), (7, .int f), (0, .ref 448), (1, .int a), (2, .int b), (3, .int c), (4, .int e), (5, .int f)] [] (m_F G 18 L1) 0 0 = some (some (.int 20), E1, 0, 0)) : ∃ E1, q_run (q_callf 4000 d) (q_own 40) (q_maxL 40) (q_ini 40) (q_code 40) (q_ret 40) (n + 41) 18 [(6, .int 17), (7, .int f), (0, .ref 448), (1, .int a), (2, .int b), (3, .int c), (4, .int e), (5, .int f)] [] (m_F G 17 L) 0 0 = some (some (.int 20), E1, 0, 0) := by
  obtain ⟨E1, kk⟩ := kk ((17, ((f >>> (16 &&& 31)) &&& 255)) :: L)
  refine ⟨E1, ?_⟩
  refine q_sg x_40_18 rfl rfl (pc1 := 20) (lv1 := [(6, .int 17), (7, .int f), (0, .ref 448), (1, .int a), (2, .int b), (3, .int c), (4, .int e), (5, .int f)]) (st1 := [.int 17]) rfl ?_
  refine q_sg x_40_20 rfl rfl (pc1 := 22) (lv1 := [(6, .int 17), (7, .int f), (0, .ref 448), (1, .int a), (2, .int b), (3, .int c), (4, .int e), (5, .int f)]) (st1 := [.int 20, .int 17]) rfl ?_
  refine q_sg x_40_22 rfl rfl (pc1 := 25) (lv1 := [(6, .int 17), (7, .int f), (0, .ref 448), (1, .int a), (2, .int b), (3, .int c), (4, .int e), (5, .int f)]) (st1 := []) rfl ?_
  refine q_sg x_40_25 rfl rfl (pc1 := 27) (lv1 := [(6, .int 17), (7, .int f), (0, .ref 448), (1, .int a), (2, .int b), (3, .int c), (4, .int e), (5, .int f)]) (st1 := [.int 17]) rfl ?_
  refine q_sg x_40_27 rfl rfl (pc1 := 28) (lv1 := [(6, .int 17), (7, .int f), (0, .ref 448), (1, .int a), (2, .int b), (3, .int c), (4, .int e), (5, .int f)]) (st1 := [.int 4, .int 17]) rfl ?_
  refine q_sg x_40_28 rfl rfl (pc1 := 35) (lv1 := [(6, .int 17), (7, .int f), (0, .ref 448), (1, .int a), (2, .int b), (3, .int c), (4, .int e), (5, .int f)]) (st1 := []) rfl ?_
  refine q_sg x_40_35 rfl rfl (pc1 := 37) (lv1 := [(6, .int 17), (7, .int f), (0, .ref 448), (1, .int a), (2, .int b), (3, .int c), (4, .int e), (5, .int f)]) (st1 := [.int 17]) rfl ?_
  refine q_sg x_40_37 rfl rfl (pc1 := 39) (lv1 := [(6, .int 17), (7, .int f), (0, .ref 448), (1, .int a), (2, .int b), (3, .int c), (4, .int e), (5, .int f)]) (st1 := [.int 8, .int 17]) rfl ?_
  refine q_sg x_40_39 rfl rfl (pc1 := 46) (lv1 := [(6, .int 17), (7, .int f), (0, .ref 448), (1, .int a), (2, .int b), (3, .int c), (4, .int e), (5, .int f)]) (st1 := []) rfl ?_
  refine q_sg x_40_46 rfl rfl (pc1 := 48) (lv1 := [(6, .int 17), (7, .int f), (0, .ref 448), (1, .int a), (2, .int b), (3, .int c), (4, .int e), (5, .int f)]) (st1 := [.int 17]) rfl ?_
  refine q_sg x_40_48 rfl rfl (pc1 := 50) (lv1 := [(6, .int 17), (7, .int f), (0, .ref 448), (1, .int a), (2, .int b), (3, .int c), (4, .int e), (5, .int f)]) (st1 := [.int 12, .int 17]) rfl ?_
  refine q_sg x_40_50 rfl rfl (pc1 := 57) (lv1 := [(6, .int 17), (7, .int f), (0, .ref 448), (1, .int a), (2, .int b), (3, .int c), (4, .int e), (5, .int f)]) (st1 := []) rfl ?_
  refine q_sg x_40_57 rfl rfl (pc1 := 59) (lv1 := [(6, .int 17), (7, .int f), (0, .ref 448), (1, .int a), (2, .int b), (3, .int c), (4, .int e), (5, .int f)]) (st1 := [.int 17]) rfl ?_
  refine q_sg x_40_59 rfl rfl (pc1 := 61) (lv1 := [(6, .int 17), (7, .int f), (0, .ref 448), (1, .int a), (2, .int b), (3, .int c), (4, .int e), (5, .int f)]) (st1 := [.int 16, .int 17]) rfl ?_
  refine q_sg x_40_61 rfl rfl (pc1 := 69) (lv1 := [(6, .int 17), (7, .int f), (0, .ref 448), (1, .int a), (2, .int b), (3, .int c), (4, .int e), (5, .int f)]) (st1 := []) rfl ?_
  refine q_sg x_40_69 rfl rfl (pc1 := 71) (lv1 := [(6, .int 17), (7, .int f), (0, .ref 448), (1, .int a), (2, .int b), (3, .int c), (4, .int e), (5, .int f)]) (st1 := [.int f]) rfl ?_
  refine q_sg x_40_71 rfl rfl (pc1 := 73) (lv1 := [(7, .int f), (6, .int 17), (0, .ref 448), (1, .int a), (2, .int b), (3, .int c), (4, .int e), (5, .int f)]) (st1 := []) rfl ?_
  refine q_sg x_40_73 rfl rfl (pc1 := 74) (lv1 := [(7, .int f), (6, .int 17), (0, .ref 448), (1, .int a), (2, .int b), (3, .int c), (4, .int e), (5, .int f)]) (st1 := [.ref 448]) rfl ?_
  refine q_s_get x_40_74 rfl (pc1 := 77) rfl (ci := 12) (k := 1) (ns := 0) (by decide +kernel) (q_ob (m_F0 hG 17 L) rfl) (v := .ref 452) rfl ?_
  refine q_sg x_40_77 rfl rfl (pc1 := 78) (lv1 := [(7, .int f), (6, .int 17), (0, .ref 448), (1, .int a), (2, .int b), (3, .int c), (4, .int e), (5, .int f)]) (st1 := [.ref 448, .ref 452]) rfl ?_
  refine q_s_get x_40_78 rfl (pc1 := 81) rfl (ci := 12) (k := 2) (ns := 0) (by decide +kernel) (q_ob (m_F0 hG 17 L) rfl) (v := .int 17) rfl ?_
  refine q_sg x_40_81 rfl rfl (pc1 := 83) (lv1 := [(7, .int f), (6, .int 17), (0, .ref 448), (1, .int a), (2, .int b), (3, .int c), (4, .int e), (5, .int f)]) (st1 := [.int f, .int 17, .ref 452]) rfl ?_
  refine q_sg x_40_83 rfl rfl (pc1 := 85) (lv1 := [(7, .int f), (6, .int 17), (0, .ref 448), (1, .int a), (2, .int b), (3, .int c), (4, .int e), (5, .int f)]) (st1 := [.int 24, .int f, .int 17, .ref 452]) rfl ?_
  refine q_sg x_40_85 rfl rfl (pc1 := 87) (lv1 := [(7, .int f), (6, .int 17), (0, .ref 448), (1, .int a), (2, .int b), (3, .int c), (4, .int e), (5, .int f)]) (st1 := [.int 8, .int 24, .int f, .int 17, .ref 452]) rfl ?_
  refine q_sg x_40_87 rfl rfl (pc1 := 89) (lv1 := [(7, .int f), (6, .int 17), (0, .ref 448), (1, .int a), (2, .int b), (3, .int c), (4, .int e), (5, .int f)]) (st1 := [.int 17, .int 8, .int 24, .int f, .int 17, .ref 452]) rfl ?_
  refine q_sg x_40_89 rfl rfl (pc1 := 90) (lv1 := [(7, .int f), (6, .int 17), (0, .ref 448), (1, .int a), (2, .int b), (3, .int c), (4, .int e), (5, .int f)]) (st1 := [.int 4, .int 17, .int 8, .int 24, .int f, .int 17, .ref 452]) rfl ?_
  refine q_sg x_40_90 rfl rfl (pc1 := 91) (lv1 := [(7, .int f), (6, .int 17), (0, .ref 448), (1, .int a), (2, .int b), (3, .int c), (4, .int e), (5, .int f)]) (st1 := [.int 1, .int 8, .int 24, .int f, .int 17, .ref 452]) rfl ?_
  refine q_sg x_40_91 rfl rfl (pc1 := 92) (lv1 := [(7, .int f), (6, .int 17), (0, .ref 448), (1, .int a), (2, .int b), (3, .int c), (4, .int e), (5, .int f)]) (st1 := [.int 8, .int 24, .int f, .int 17, .ref 452]) rfl ?_
  refine q_sg x_40_92 rfl rfl (pc1 := 93) (lv1 := [(7, .int f), (6, .int 17), (0, .ref 448), (1, .int a), (2, .int b), (3, .int c), (4, .int e), (5, .int f)]) (st1 := [.int 16, .int f, .int 17, .ref 452]) rfl ?_
  refine q_sg x_40_93 rfl rfl (pc1 := 94) (lv1 := [(7, .int f), (6, .int 17), (0, .ref 448), (1, .int a), (2, .int b), (3, .int c), (4, .int e), (5, .int f)]) (st1 := [.int (f >>> (16 &&& 31)), .int 17, .ref 452]) rfl ?_
  refine q_sg x_40_94 rfl rfl (pc1 := 97) (lv1 := [(7, .int f), (6, .int 17), (0, .ref 448), (1, .int a), (2, .int b), (3, .int c), (4, .int e), (5, .int f)]) (st1 := [.int 255, .int (f >>> (16 &&& 31)), .int 17, .ref 452]) rfl ?_
  refine q_sg x_40_97 rfl rfl (pc1 := 98) (lv1 := [(7, .int f), (6, .int 17), (0, .ref 448), (1, .int a), (2, .int b), (3, .int c), (4, .int e), (5, .int f)]) (st1 := [.int ((f >>> (16 &&& 31)) &&& 255), .int 17, .ref 452]) rfl ?_
  refine q_s_ias x_40_98 (pc1 := 99) rfl (q_ar (m_F1 hG 17 L) rfl) (by decide +kernel) (j := 17) rfl (m_Fa _ _ ((17, ((f >>> (16 &&& 31)) &&& 255)) :: L)) ?_
  refine q_sg x_40_99 rfl rfl (pc1 := 100) (lv1 := [(7, .int f), (6, .int 17), (0, .ref 448), (1, .int a), (2, .int b), (3, .int c), (4, .int e), (5, .int f)]) (st1 := [.ref 448]) rfl ?_
  refine q_sg x_40_100 rfl rfl (pc1 := 101) (lv1 := [(7, .int f), (6, .int 17), (0, .ref 448), (1, .int a), (2, .int b), (3, .int c), (4, .int e), (5, .int f)]) (st1 := [.ref 448, .ref 448]) rfl ?_
  refine q_s_get x_40_101 rfl (pc1 := 104) rfl (ci := 12) (k := 2) (ns := 0) (by decide +kernel) (q_ob (m_F0 hG 17 ((17, ((f >>> (16 &&& 31)) &&& 255)) :: L)) rfl) (v := .int 17) rfl ?_
  refine q_sg x_40_104 rfl rfl (pc1 := 105) (lv1 := [(7, .int f), (6, .int 17), (0, .ref 448), (1, .int a), (2, .int b), (3, .int c), (4, .int e), (5, .int f)]) (st1 := [.int 1, .int 17, .ref 448]) rfl ?_
  refine q_sg x_40_105 rfl rfl (pc1 := 106) (lv1 := [(7, .int f), (6, .int 17), (0, .ref 448), (1, .int a), (2, .int b), (3, .int c), (4, .int e), (5, .int f)]) (st1 := [.int 18, .ref 448]) rfl ?_
  refine q_s_put x_40_106 (pc1 := 109) rfl (ci := 12) (k := 2) (ns := 0) (by decide +kernel) (q_ob (m_F0 hG 17 ((17, ((f >>> (16 &&& 31)) &&& 255)) :: L)) rfl) (by decide +kernel) (m_Fs _ 18 _) ?_
  refine q_sg x_40_109 rfl rfl (pc1 := 112) (lv1 := [(6, .int 18), (7, .int f), (0, .ref 448), (1, .int a), (2, .int b), (3, .int c), (4, .int e), (5, .int f)]) (st1 := []) rfl ?_
  refine q_sg x_40_112 rfl rfl (pc1 := 18) (lv1 := [(6, .int 18), (7, .int f), (0, .ref 448), (1, .int a), (2, .int b), (3, .int c), (4, .int e), (5, .int f)]) (st1 := []) rfl ?_
  exact kk
theorem m_turn18 {G : q_H} (hG : 264 ≤ G.length) {a b c e f : Int32} {L : List (Nat × Int32)} {d n : Nat} (kk : ∀ L1, ∃ E1, q_run (q_callf 4000 d) (q_own 40) (q_maxL 40) (q_ini 40) (q_code 40) (q_ret 40) n 18 [(6, .int 19), (7, .int f), (0, .ref 448), (1, .int a), (2, .int b), (3, .int c), (4, .int e), (5, .int f)] [] (m_F G 19 L1) 0 0 = some (some (.int 20), E1, 0, 0)) : ∃ E1, q_run (q_callf 4000 d) (q_own 40) (q_maxL 40) (q_ini 40) (q_code 40) (q_ret 40) (n + 41) 18 [(6, .int 18), (7, .int f), (0, .ref 448), (1, .int a), (2, .int b), (3, .int c), (4, .int e), (5, .int f)] [] (m_F G 18 L) 0 0 = some (some (.int 20), E1, 0, 0) := by
  obtain ⟨E1, kk⟩ := kk ((18, ((f >>> (8 &&& 31)) &&& 255)) :: L)
  refine ⟨E1, ?_⟩
  refine q_sg x_40_18 rfl rfl (pc1 := 20) (lv1 := [(6, .int 18), (7, .int f), (0, .ref 448), (1, .int a), (2, .int b), (3, .int c), (4, .int e), (5, .int f)]) (st1 := [.int 18]) rfl ?_
  refine q_sg x_40_20 rfl rfl (pc1 := 22) (lv1 := [(6, .int 18), (7, .int f), (0, .ref 448), (1, .int a), (2, .int b), (3, .int c), (4, .int e), (5, .int f)]) (st1 := [.int 20, .int 18]) rfl ?_
  refine q_sg x_40_22 rfl rfl (pc1 := 25) (lv1 := [(6, .int 18), (7, .int f), (0, .ref 448), (1, .int a), (2, .int b), (3, .int c), (4, .int e), (5, .int f)]) (st1 := []) rfl ?_
  refine q_sg x_40_25 rfl rfl (pc1 := 27) (lv1 := [(6, .int 18), (7, .int f), (0, .ref 448), (1, .int a), (2, .int b), (3, .int c), (4, .int e), (5, .int f)]) (st1 := [.int 18]) rfl ?_
  refine q_sg x_40_27 rfl rfl (pc1 := 28) (lv1 := [(6, .int 18), (7, .int f), (0, .ref 448), (1, .int a), (2, .int b), (3, .int c), (4, .int e), (5, .int f)]) (st1 := [.int 4, .int 18]) rfl ?_
  refine q_sg x_40_28 rfl rfl (pc1 := 35) (lv1 := [(6, .int 18), (7, .int f), (0, .ref 448), (1, .int a), (2, .int b), (3, .int c), (4, .int e), (5, .int f)]) (st1 := []) rfl ?_
  refine q_sg x_40_35 rfl rfl (pc1 := 37) (lv1 := [(6, .int 18), (7, .int f), (0, .ref 448), (1, .int a), (2, .int b), (3, .int c), (4, .int e), (5, .int f)]) (st1 := [.int 18]) rfl ?_
  refine q_sg x_40_37 rfl rfl (pc1 := 39) (lv1 := [(6, .int 18), (7, .int f), (0, .ref 448), (1, .int a), (2, .int b), (3, .int c), (4, .int e), (5, .int f)]) (st1 := [.int 8, .int 18]) rfl ?_
  refine q_sg x_40_39 rfl rfl (pc1 := 46) (lv1 := [(6, .int 18), (7, .int f), (0, .ref 448), (1, .int a), (2, .int b), (3, .int c), (4, .int e), (5, .int f)]) (st1 := []) rfl ?_
  refine q_sg x_40_46 rfl rfl (pc1 := 48) (lv1 := [(6, .int 18), (7, .int f), (0, .ref 448), (1, .int a), (2, .int b), (3, .int c), (4, .int e), (5, .int f)]) (st1 := [.int 18]) rfl ?_
  refine q_sg x_40_48 rfl rfl (pc1 := 50) (lv1 := [(6, .int 18), (7, .int f), (0, .ref 448), (1, .int a), (2, .int b), (3, .int c), (4, .int e), (5, .int f)]) (st1 := [.int 12, .int 18]) rfl ?_
  refine q_sg x_40_50 rfl rfl (pc1 := 57) (lv1 := [(6, .int 18), (7, .int f), (0, .ref 448), (1, .int a), (2, .int b), (3, .int c), (4, .int e), (5, .int f)]) (st1 := []) rfl ?_
  refine q_sg x_40_57 rfl rfl (pc1 := 59) (lv1 := [(6, .int 18), (7, .int f), (0, .ref 448), (1, .int a), (2, .int b), (3, .int c), (4, .int e), (5, .int f)]) (st1 := [.int 18]) rfl ?_
  refine q_sg x_40_59 rfl rfl (pc1 := 61) (lv1 := [(6, .int 18), (7, .int f), (0, .ref 448), (1, .int a), (2, .int b), (3, .int c), (4, .int e), (5, .int f)]) (st1 := [.int 16, .int 18]) rfl ?_
  refine q_sg x_40_61 rfl rfl (pc1 := 69) (lv1 := [(6, .int 18), (7, .int f), (0, .ref 448), (1, .int a), (2, .int b), (3, .int c), (4, .int e), (5, .int f)]) (st1 := []) rfl ?_
  refine q_sg x_40_69 rfl rfl (pc1 := 71) (lv1 := [(6, .int 18), (7, .int f), (0, .ref 448), (1, .int a), (2, .int b), (3, .int c), (4, .int e), (5, .int f)]) (st1 := [.int f]) rfl ?_
  refine q_sg x_40_71 rfl rfl (pc1 := 73) (lv1 := [(7, .int f), (6, .int 18), (0, .ref 448), (1, .int a), (2, .int b), (3, .int c), (4, .int e), (5, .int f)]) (st1 := []) rfl ?_
  refine q_sg x_40_73 rfl rfl (pc1 := 74) (lv1 := [(7, .int f), (6, .int 18), (0, .ref 448), (1, .int a), (2, .int b), (3, .int c), (4, .int e), (5, .int f)]) (st1 := [.ref 448]) rfl ?_
  refine q_s_get x_40_74 rfl (pc1 := 77) rfl (ci := 12) (k := 1) (ns := 0) (by decide +kernel) (q_ob (m_F0 hG 18 L) rfl) (v := .ref 452) rfl ?_
  refine q_sg x_40_77 rfl rfl (pc1 := 78) (lv1 := [(7, .int f), (6, .int 18), (0, .ref 448), (1, .int a), (2, .int b), (3, .int c), (4, .int e), (5, .int f)]) (st1 := [.ref 448, .ref 452]) rfl ?_
  refine q_s_get x_40_78 rfl (pc1 := 81) rfl (ci := 12) (k := 2) (ns := 0) (by decide +kernel) (q_ob (m_F0 hG 18 L) rfl) (v := .int 18) rfl ?_
  refine q_sg x_40_81 rfl rfl (pc1 := 83) (lv1 := [(7, .int f), (6, .int 18), (0, .ref 448), (1, .int a), (2, .int b), (3, .int c), (4, .int e), (5, .int f)]) (st1 := [.int f, .int 18, .ref 452]) rfl ?_
  refine q_sg x_40_83 rfl rfl (pc1 := 85) (lv1 := [(7, .int f), (6, .int 18), (0, .ref 448), (1, .int a), (2, .int b), (3, .int c), (4, .int e), (5, .int f)]) (st1 := [.int 24, .int f, .int 18, .ref 452]) rfl ?_
  refine q_sg x_40_85 rfl rfl (pc1 := 87) (lv1 := [(7, .int f), (6, .int 18), (0, .ref 448), (1, .int a), (2, .int b), (3, .int c), (4, .int e), (5, .int f)]) (st1 := [.int 8, .int 24, .int f, .int 18, .ref 452]) rfl ?_
  refine q_sg x_40_87 rfl rfl (pc1 := 89) (lv1 := [(7, .int f), (6, .int 18), (0, .ref 448), (1, .int a), (2, .int b), (3, .int c), (4, .int e), (5, .int f)]) (st1 := [.int 18, .int 8, .int 24, .int f, .int 18, .ref 452]) rfl ?_
  refine q_sg x_40_89 rfl rfl (pc1 := 90) (lv1 := [(7, .int f), (6, .int 18), (0, .ref 448), (1, .int a), (2, .int b), (3, .int c), (4, .int e), (5, .int f)]) (st1 := [.int 4, .int 18, .int 8, .int 24, .int f, .int 18, .ref 452]) rfl ?_
  refine q_sg x_40_90 rfl rfl (pc1 := 91) (lv1 := [(7, .int f), (6, .int 18), (0, .ref 448), (1, .int a), (2, .int b), (3, .int c), (4, .int e), (5, .int f)]) (st1 := [.int 2, .int 8, .int 24, .int f, .int 18, .ref 452]) rfl ?_
  refine q_sg x_40_91 rfl rfl (pc1 := 92) (lv1 := [(7, .int f), (6, .int 18), (0, .ref 448), (1, .int a), (2, .int b), (3, .int c), (4, .int e), (5, .int f)]) (st1 := [.int 16, .int 24, .int f, .int 18, .ref 452]) rfl ?_
  refine q_sg x_40_92 rfl rfl (pc1 := 93) (lv1 := [(7, .int f), (6, .int 18), (0, .ref 448), (1, .int a), (2, .int b), (3, .int c), (4, .int e), (5, .int f)]) (st1 := [.int 8, .int f, .int 18, .ref 452]) rfl ?_
  refine q_sg x_40_93 rfl rfl (pc1 := 94) (lv1 := [(7, .int f), (6, .int 18), (0, .ref 448), (1, .int a), (2, .int b), (3, .int c), (4, .int e), (5, .int f)]) (st1 := [.int (f >>> (8 &&& 31)), .int 18, .ref 452]) rfl ?_
  refine q_sg x_40_94 rfl rfl (pc1 := 97) (lv1 := [(7, .int f), (6, .int 18), (0, .ref 448), (1, .int a), (2, .int b), (3, .int c), (4, .int e), (5, .int f)]) (st1 := [.int 255, .int (f >>> (8 &&& 31)), .int 18, .ref 452]) rfl ?_
  refine q_sg x_40_97 rfl rfl (pc1 := 98) (lv1 := [(7, .int f), (6, .int 18), (0, .ref 448), (1, .int a), (2, .int b), (3, .int c), (4, .int e), (5, .int f)]) (st1 := [.int ((f >>> (8 &&& 31)) &&& 255), .int 18, .ref 452]) rfl ?_
  refine q_s_ias x_40_98 (pc1 := 99) rfl (q_ar (m_F1 hG 18 L) rfl) (by decide +kernel) (j := 18) rfl (m_Fa _ _ ((18, ((f >>> (8 &&& 31)) &&& 255)) :: L)) ?_
  refine q_sg x_40_99 rfl rfl (pc1 := 100) (lv1 := [(7, .int f), (6, .int 18), (0, .ref 448), (1, .int a), (2, .int b), (3, .int c), (4, .int e), (5, .int f)]) (st1 := [.ref 448]) rfl ?_
  refine q_sg x_40_100 rfl rfl (pc1 := 101) (lv1 := [(7, .int f), (6, .int 18), (0, .ref 448), (1, .int a), (2, .int b), (3, .int c), (4, .int e), (5, .int f)]) (st1 := [.ref 448, .ref 448]) rfl ?_
  refine q_s_get x_40_101 rfl (pc1 := 104) rfl (ci := 12) (k := 2) (ns := 0) (by decide +kernel) (q_ob (m_F0 hG 18 ((18, ((f >>> (8 &&& 31)) &&& 255)) :: L)) rfl) (v := .int 18) rfl ?_
  refine q_sg x_40_104 rfl rfl (pc1 := 105) (lv1 := [(7, .int f), (6, .int 18), (0, .ref 448), (1, .int a), (2, .int b), (3, .int c), (4, .int e), (5, .int f)]) (st1 := [.int 1, .int 18, .ref 448]) rfl ?_
  refine q_sg x_40_105 rfl rfl (pc1 := 106) (lv1 := [(7, .int f), (6, .int 18), (0, .ref 448), (1, .int a), (2, .int b), (3, .int c), (4, .int e), (5, .int f)]) (st1 := [.int 19, .ref 448]) rfl ?_
  refine q_s_put x_40_106 (pc1 := 109) rfl (ci := 12) (k := 2) (ns := 0) (by decide +kernel) (q_ob (m_F0 hG 18 ((18, ((f >>> (8 &&& 31)) &&& 255)) :: L)) rfl) (by decide +kernel) (m_Fs _ 19 _) ?_
  refine q_sg x_40_109 rfl rfl (pc1 := 112) (lv1 := [(6, .int 19), (7, .int f), (0, .ref 448), (1, .int a), (2, .int b), (3, .int c), (4, .int e), (5, .int f)]) (st1 := []) rfl ?_
  refine q_sg x_40_112 rfl rfl (pc1 := 18) (lv1 := [(6, .int 19), (7, .int f), (0, .ref 448), (1, .int a), (2, .int b), (3, .int c), (4, .int e), (5, .int f)]) (st1 := []) rfl ?_
  exact kk
theorem m_turn19 {G : q_H} (hG : 264 ≤ G.length) {a b c e f : Int32} {L : List (Nat × Int32)} {d n : Nat} (kk : ∀ L1, ∃ E1, q_run (q_callf 4000 d) (q_own 40) (q_maxL 40) (q_ini 40) (q_code 40) (q_ret 40) n 18 [(6, .int 20), (7, .int f), (0, .ref 448), (1, .int a), (2, .int b), (3, .int c), (4, .int e), (5, .int f)] [] (m_F G 20 L1) 0 0 = some (some (.int 20), E1, 0, 0)) : ∃ E1, q_run (q_callf 4000 d) (q_own 40) (q_maxL 40) (q_ini 40) (q_code 40) (q_ret 40) (n + 41) 18 [(6, .int 19), (7, .int f), (0, .ref 448), (1, .int a), (2, .int b), (3, .int c), (4, .int e), (5, .int f)] [] (m_F G 19 L) 0 0 = some (some (.int 20), E1, 0, 0) := by
  obtain ⟨E1, kk⟩ := kk ((19, ((f >>> (0 &&& 31)) &&& 255)) :: L)
  refine ⟨E1, ?_⟩
  refine q_sg x_40_18 rfl rfl (pc1 := 20) (lv1 := [(6, .int 19), (7, .int f), (0, .ref 448), (1, .int a), (2, .int b), (3, .int c), (4, .int e), (5, .int f)]) (st1 := [.int 19]) rfl ?_
  refine q_sg x_40_20 rfl rfl (pc1 := 22) (lv1 := [(6, .int 19), (7, .int f), (0, .ref 448), (1, .int a), (2, .int b), (3, .int c), (4, .int e), (5, .int f)]) (st1 := [.int 20, .int 19]) rfl ?_
  refine q_sg x_40_22 rfl rfl (pc1 := 25) (lv1 := [(6, .int 19), (7, .int f), (0, .ref 448), (1, .int a), (2, .int b), (3, .int c), (4, .int e), (5, .int f)]) (st1 := []) rfl ?_
  refine q_sg x_40_25 rfl rfl (pc1 := 27) (lv1 := [(6, .int 19), (7, .int f), (0, .ref 448), (1, .int a), (2, .int b), (3, .int c), (4, .int e), (5, .int f)]) (st1 := [.int 19]) rfl ?_
  refine q_sg x_40_27 rfl rfl (pc1 := 28) (lv1 := [(6, .int 19), (7, .int f), (0, .ref 448), (1, .int a), (2, .int b), (3, .int c), (4, .int e), (5, .int f)]) (st1 := [.int 4, .int 19]) rfl ?_
  refine q_sg x_40_28 rfl rfl (pc1 := 35) (lv1 := [(6, .int 19), (7, .int f), (0, .ref 448), (1, .int a), (2, .int b), (3, .int c), (4, .int e), (5, .int f)]) (st1 := []) rfl ?_
  refine q_sg x_40_35 rfl rfl (pc1 := 37) (lv1 := [(6, .int 19), (7, .int f), (0, .ref 448), (1, .int a), (2, .int b), (3, .int c), (4, .int e), (5, .int f)]) (st1 := [.int 19]) rfl ?_
  refine q_sg x_40_37 rfl rfl (pc1 := 39) (lv1 := [(6, .int 19), (7, .int f), (0, .ref 448), (1, .int a), (2, .int b), (3, .int c), (4, .int e), (5, .int f)]) (st1 := [.int 8, .int 19]) rfl ?_
  refine q_sg x_40_39 rfl rfl (pc1 := 46) (lv1 := [(6, .int 19), (7, .int f), (0, .ref 448), (1, .int a), (2, .int b), (3, .int c), (4, .int e), (5, .int f)]) (st1 := []) rfl ?_
  refine q_sg x_40_46 rfl rfl (pc1 := 48) (lv1 := [(6, .int 19), (7, .int f), (0, .ref 448), (1, .int a), (2, .int b), (3, .int c), (4, .int e), (5, .int f)]) (st1 := [.int 19]) rfl ?_
  refine q_sg x_40_48 rfl rfl (pc1 := 50) (lv1 := [(6, .int 19), (7, .int f), (0, .ref 448), (1, .int a), (2, .int b), (3, .int c), (4, .int e), (5, .int f)]) (st1 := [.int 12, .int 19]) rfl ?_
  refine q_sg x_40_50 rfl rfl (pc1 := 57) (lv1 := [(6, .int 19), (7, .int f), (0, .ref 448), (1, .int a), (2, .int b), (3, .int c), (4, .int e), (5, .int f)]) (st1 := []) rfl ?_
  refine q_sg x_40_57 rfl rfl (pc1 := 59) (lv1 := [(6, .int 19), (7, .int f), (0, .ref 448), (1, .int a), (2, .int b), (3, .int c), (4, .int e), (5, .int f)]) (st1 := [.int 19]) rfl ?_
  refine q_sg x_40_59 rfl rfl (pc1 := 61) (lv1 := [(6, .int 19), (7, .int f), (0, .ref 448), (1, .int a), (2, .int b), (3, .int c), (4, .int e), (5, .int f)]) (st1 := [.int 16, .int 19]) rfl ?_
  refine q_sg x_40_61 rfl rfl (pc1 := 69) (lv1 := [(6, .int 19), (7, .int f), (0, .ref 448), (1, .int a), (2, .int b), (3, .int c), (4, .int e), (5, .int f)]) (st1 := []) rfl ?_
  refine q_sg x_40_69 rfl rfl (pc1 := 71) (lv1 := [(6, .int 19), (7, .int f), (0, .ref 448), (1, .int a), (2, .int b), (3, .int c), (4, .int e), (5, .int f)]) (st1 := [.int f]) rfl ?_
  refine q_sg x_40_71 rfl rfl (pc1 := 73) (lv1 := [(7, .int f), (6, .int 19), (0, .ref 448), (1, .int a), (2, .int b), (3, .int c), (4, .int e), (5, .int f)]) (st1 := []) rfl ?_
  refine q_sg x_40_73 rfl rfl (pc1 := 74) (lv1 := [(7, .int f), (6, .int 19), (0, .ref 448), (1, .int a), (2, .int b), (3, .int c), (4, .int e), (5, .int f)]) (st1 := [.ref 448]) rfl ?_
  refine q_s_get x_40_74 rfl (pc1 := 77) rfl (ci := 12) (k := 1) (ns := 0) (by decide +kernel) (q_ob (m_F0 hG 19 L) rfl) (v := .ref 452) rfl ?_
  refine q_sg x_40_77 rfl rfl (pc1 := 78) (lv1 := [(7, .int f), (6, .int 19), (0, .ref 448), (1, .int a), (2, .int b), (3, .int c), (4, .int e), (5, .int f)]) (st1 := [.ref 448, .ref 452]) rfl ?_
  refine q_s_get x_40_78 rfl (pc1 := 81) rfl (ci := 12) (k := 2) (ns := 0) (by decide +kernel) (q_ob (m_F0 hG 19 L) rfl) (v := .int 19) rfl ?_
  refine q_sg x_40_81 rfl rfl (pc1 := 83) (lv1 := [(7, .int f), (6, .int 19), (0, .ref 448), (1, .int a), (2, .int b), (3, .int c), (4, .int e), (5, .int f)]) (st1 := [.int f, .int 19, .ref 452]) rfl ?_
  refine q_sg x_40_83 rfl rfl (pc1 := 85) (lv1 := [(7, .int f), (6, .int 19), (0, .ref 448), (1, .int a), (2, .int b), (3, .int c), (4, .int e), (5, .int f)]) (st1 := [.int 24, .int f, .int 19, .ref 452]) rfl ?_
  refine q_sg x_40_85 rfl rfl (pc1 := 87) (lv1 := [(7, .int f), (6, .int 19), (0, .ref 448), (1, .int a), (2, .int b), (3, .int c), (4, .int e), (5, .int f)]) (st1 := [.int 8, .int 24, .int f, .int 19, .ref 452]) rfl ?_
  refine q_sg x_40_87 rfl rfl (pc1 := 89) (lv1 := [(7, .int f), (6, .int 19), (0, .ref 448), (1, .int a), (2, .int b), (3, .int c), (4, .int e), (5, .int f)]) (st1 := [.int 19, .int 8, .int 24, .int f, .int 19, .ref 452]) rfl ?_
  refine q_sg x_40_89 rfl rfl (pc1 := 90) (lv1 := [(7, .int f), (6, .int 19), (0, .ref 448), (1, .int a), (2, .int b), (3, .int c), (4, .int e), (5, .int f)]) (st1 := [.int 4, .int 19, .int 8, .int 24, .int f, .int 19, .ref 452]) rfl ?_
  refine q_sg x_40_90 rfl rfl (pc1 := 91) (lv1 := [(7, .int f), (6, .int 19), (0, .ref 448), (1, .int a), (2, .int b), (3, .int c), (4, .int e), (5, .int f)]) (st1 := [.int 3, .int 8, .int 24, .int f, .int 19, .ref 452]) rfl ?_
  refine q_sg x_40_91 rfl rfl (pc1 := 92) (lv1 := [(7, .int f), (6, .int 19), (0, .ref 448), (1, .int a), (2, .int b), (3, .int c), (4, .int e), (5, .int f)]) (st1 := [.int 24, .int 24, .int f, .int 19, .ref 452]) rfl ?_
  refine q_sg x_40_92 rfl rfl (pc1 := 93) (lv1 := [(7, .int f), (6, .int 19), (0, .ref 448), (1, .int a), (2, .int b), (3, .int c), (4, .int e), (5, .int f)]) (st1 := [.int 0, .int f, .int 19, .ref 452]) rfl ?_
  refine q_sg x_40_93 rfl rfl (pc1 := 94) (lv1 := [(7, .int f), (6, .int 19), (0, .ref 448), (1, .int a), (2, .int b), (3, .int c), (4, .int e), (5, .int f)]) (st1 := [.int (f >>> (0 &&& 31)), .int 19, .ref 452]) rfl ?_
  refine q_sg x_40_94 rfl rfl (pc1 := 97) (lv1 := [(7, .int f), (6, .int 19), (0, .ref 448), (1, .int a), (2, .int b), (3, .int c), (4, .int e), (5, .int f)]) (st1 := [.int 255, .int (f >>> (0 &&& 31)), .int 19, .ref 452]) rfl ?_
  refine q_sg x_40_97 rfl rfl (pc1 := 98) (lv1 := [(7, .int f), (6, .int 19), (0, .ref 448), (1, .int a), (2, .int b), (3, .int c), (4, .int e), (5, .int f)]) (st1 := [.int ((f >>> (0 &&& 31)) &&& 255), .int 19, .ref 452]) rfl ?_
  refine q_s_ias x_40_98 (pc1 := 99) rfl (q_ar (m_F1 hG 19 L) rfl) (by decide +kernel) (j := 19) rfl (m_Fa _ _ ((19, ((f >>> (0 &&& 31)) &&& 255)) :: L)) ?_
  refine q_sg x_40_99 rfl rfl (pc1 := 100) (lv1 := [(7, .int f), (6, .int 19), (0, .ref 448), (1, .int a), (2, .int b), (3, .int c), (4, .int e), (5, .int f)]) (st1 := [.ref 448]) rfl ?_
  refine q_sg x_40_100 rfl rfl (pc1 := 101) (lv1 := [(7, .int f), (6, .int 19), (0, .ref 448), (1, .int a), (2, .int b), (3, .int c), (4, .int e), (5, .int f)]) (st1 := [.ref 448, .ref 448]) rfl ?_
  refine q_s_get x_40_101 rfl (pc1 := 104) rfl (ci := 12) (k := 2) (ns := 0) (by decide +kernel) (q_ob (m_F0 hG 19 ((19, ((f >>> (0 &&& 31)) &&& 255)) :: L)) rfl) (v := .int 19) rfl ?_
  refine q_sg x_40_104 rfl rfl (pc1 := 105) (lv1 := [(7, .int f), (6, .int 19), (0, .ref 448), (1, .int a), (2, .int b), (3, .int c), (4, .int e), (5, .int f)]) (st1 := [.int 1, .int 19, .ref 448]) rfl ?_
  refine q_sg x_40_105 rfl rfl (pc1 := 106) (lv1 := [(7, .int f), (6, .int 19), (0, .ref 448), (1, .int a), (2, .int b), (3, .int c), (4, .int e), (5, .int f)]) (st1 := [.int 20, .ref 448]) rfl ?_
  refine q_s_put x_40_106 (pc1 := 109) rfl (ci := 12) (k := 2) (ns := 0) (by decide +kernel) (q_ob (m_F0 hG 19 ((19, ((f >>> (0 &&& 31)) &&& 255)) :: L)) rfl) (by decide +kernel) (m_Fs _ 20 _) ?_
  refine q_sg x_40_109 rfl rfl (pc1 := 112) (lv1 := [(6, .int 20), (7, .int f), (0, .ref 448), (1, .int a), (2, .int b), (3, .int c), (4, .int e), (5, .int f)]) (st1 := []) rfl ?_
  refine q_sg x_40_112 rfl rfl (pc1 := 18) (lv1 := [(6, .int 20), (7, .int f), (0, .ref 448), (1, .int a), (2, .int b), (3, .int c), (4, .int e), (5, .int f)]) (st1 := []) rfl ?_
  exact kk
theorem m_turn20 {G : q_H} (hG : 264 ≤ G.length) {a b c e f : Int32} {d n : Nat} (L : List (Nat × Int32)) : ∃ E1, q_run (q_callf 4000 d) (q_own 40) (q_maxL 40) (q_ini 40) (q_code 40) (q_ret 40) (n + 6) 18 [(6, .int 20), (7, .int f), (0, .ref 448), (1, .int a), (2, .int b), (3, .int c), (4, .int e), (5, .int f)] [] (m_F G 20 L) 0 0 = some (some (.int 20), E1, 0, 0) := by
  refine ⟨m_F G 20 L, ?_⟩
  refine q_sg x_40_18 rfl rfl (pc1 := 20) (lv1 := [(6, .int 20), (7, .int f), (0, .ref 448), (1, .int a), (2, .int b), (3, .int c), (4, .int e), (5, .int f)]) (st1 := [.int 20]) rfl ?_
  refine q_sg x_40_20 rfl rfl (pc1 := 22) (lv1 := [(6, .int 20), (7, .int f), (0, .ref 448), (1, .int a), (2, .int b), (3, .int c), (4, .int e), (5, .int f)]) (st1 := [.int 20, .int 20]) rfl ?_
  refine q_sg x_40_22 rfl rfl (pc1 := 115) (lv1 := [(6, .int 20), (7, .int f), (0, .ref 448), (1, .int a), (2, .int b), (3, .int c), (4, .int e), (5, .int f)]) (st1 := []) rfl ?_
  refine q_sg x_40_115 rfl rfl (pc1 := 116) (lv1 := [(6, .int 20), (7, .int f), (0, .ref 448), (1, .int a), (2, .int b), (3, .int c), (4, .int e), (5, .int f)]) (st1 := [.ref 448]) rfl ?_
  refine q_s_get x_40_116 rfl (pc1 := 119) rfl (ci := 12) (k := 2) (ns := 0) (by decide +kernel) (q_ob (m_F0 hG 20 L) rfl) (v := .int 20) rfl ?_
  exact q_sr x_40_119 rfl
theorem m_feed {G : q_H} (hG : 264 ≤ G.length) (a b c e f : Int32) (L : List (Nat × Int32)) (d : Nat) : ∃ E1, q_callf 4000 (d + 1) 40 [.ref 448, .int a, .int b, .int c, .int e, .int f] (m_F G 0 L) = some (some (.int 20), E1, 0, 0) := by
  have kk : ∃ E1, q_run (q_callf 4000 d) (q_own 40) (q_maxL 40) (q_ini 40) (q_code 40) (q_ret 40) 3992 18 [(6, .int 0), (0, .ref 448), (1, .int a), (2, .int b), (3, .int c), (4, .int e), (5, .int f)] [] (m_F G 0 L) 0 0 = some (some (.int 20), E1, 0, 0) := m_turn0 hG fun L0 => m_turn1 hG fun L1 => m_turn2 hG fun L2 => m_turn3 hG fun L3 => m_turn4 hG fun L4 => m_turn5 hG fun L5 => m_turn6 hG fun L6 => m_turn7 hG fun L7 => m_turn8 hG fun L8 => m_turn9 hG fun L9 => m_turn10 hG fun L10 => m_turn11 hG fun L11 => m_turn12 hG fun L12 => m_turn13 hG fun L13 => m_turn14 hG fun L14 => m_turn15 hG fun L15 => m_turn16 hG fun L16 => m_turn17 hG fun L17 => m_turn18 hG fun L18 => m_turn19 hG fun L19 => m_turn20 hG L19
  obtain ⟨E1, kk⟩ := kk
  refine ⟨E1, q_cg rfl ?_⟩
  refine q_sg x_40_0 rfl rfl (pc1 := 1) (lv1 := [(0, .ref 448), (1, .int a), (2, .int b), (3, .int c), (4, .int e), (5, .int f)]) (st1 := [.ref 448]) rfl ?_
  refine q_s_get x_40_1 rfl (pc1 := 4) rfl (ci := 12) (k := 2) (ns := 0) (by decide +kernel) (q_ob (m_F0 hG 0 L) rfl) (v := .int 0) rfl ?_
  refine q_sg x_40_4 rfl rfl (pc1 := 6) (lv1 := [(0, .ref 448), (1, .int a), (2, .int b), (3, .int c), (4, .int e), (5, .int f)]) (st1 := [.int 20, .int 0]) rfl ?_
  refine q_sg x_40_6 rfl rfl (pc1 := 7) (lv1 := [(0, .ref 448), (1, .int a), (2, .int b), (3, .int c), (4, .int e), (5, .int f)]) (st1 := [.int 20]) rfl ?_
  refine q_sg x_40_7 rfl rfl (pc1 := 10) (lv1 := [(0, .ref 448), (1, .int a), (2, .int b), (3, .int c), (4, .int e), (5, .int f)]) (st1 := [.int 2000, .int 20]) rfl ?_
  refine q_sg x_40_10 rfl rfl (pc1 := 15) (lv1 := [(0, .ref 448), (1, .int a), (2, .int b), (3, .int c), (4, .int e), (5, .int f)]) (st1 := []) rfl ?_
  refine q_sg x_40_15 rfl rfl (pc1 := 16) (lv1 := [(0, .ref 448), (1, .int a), (2, .int b), (3, .int c), (4, .int e), (5, .int f)]) (st1 := [.int 0]) rfl ?_
  refine q_sg x_40_16 rfl rfl (pc1 := 18) (lv1 := [(6, .int 0), (0, .ref 448), (1, .int a), (2, .int b), (3, .int c), (4, .int e), (5, .int f)]) (st1 := []) rfl ?_
  exact kk
def q_two (yH yM : Nat) (as : List Value) : Prop := ∃ (v : Int32) (E1 E2 : q_H), q_callf 4000 20 yH (.ref 0 :: as) p_E = some (some (.int v), E1, 0, 0) ∧ q_callf 4000 20 yM (.ref 448 :: as) E1 = some (some (.int v), E2, 0, 0) ∧ ∃ fs1 fs2 : List Value, q_obj p_E 0 (q_own yH) = some fs1 ∧ q_obj E1 448 (q_own yM) = some fs2
def q_chB (yH yM : Nat) (as : List Value) : Bool := match q_callf 4000 20 yH (.ref 0 :: as) p_E with
  | some (some (.int v), E1, 0, 0) => (match q_callf 4000 20 yM (.ref 448 :: as) E1 with
    | some (some (.int w), _, 0, 0) => decide (w = v)
    | _ => false) && (q_obj p_E 0 (q_own yH)).isSome && (q_obj E1 448 (q_own yM)).isSome
  | _ => false
theorem q_chB_s {yH yM : Nat} {as : List Value} (h : q_chB yH yM as = true) : q_two yH yM as := by
  unfold q_chB at h
  split at h
  · rename_i v E1 e1
    simp only [Bool.and_eq_true] at h
    obtain ⟨⟨h, h2⟩, h3⟩ := h
    obtain ⟨fs1, h2⟩ := Option.isSome_iff_exists.mp h2
    obtain ⟨fs2, h3⟩ := Option.isSome_iff_exists.mp h3
    split at h
    · rename_i w E2 e2
      have := of_decide_eq_true h
      subst this
      exact ⟨w, E1, E2, e1, e2, fs1, fs2, h2, h3⟩
    · cases h
  · cases h
theorem q_two_same {yH yM : Nat} {as : List Value} {v : Int32} (hH : q_own yH = 11) (hM : q_own yM = 12) (h1 : q_callf 4000 20 yH (.ref 0 :: as) p_E = some (some (.int v), p_E, 0, 0)) (h2 : q_callf 4000 20 yM (.ref 448 :: as) p_E = some (some (.int v), p_E, 0, 0)) : q_two yH yM as :=
  ⟨v, p_E, p_E, h1, h2, _, _, by rw [hH]; exact q_ob e_0 rfl, by rw [hM]; exact q_ob e_224 rfl⟩
theorem p_len : 264 ≤ p_E.length := by decide +kernel
theorem two_feed (a b c e f : Int32) : q_two 16 40 [.int a, .int b, .int c, .int e, .int f] := by
  have h1 := h_feed p_len a b c e f [(2, 3), (0, 10)] 18
  rw [h_F_eq e_0 e_2] at h1
  obtain ⟨E2, h2⟩ := m_feed (G := h_F p_E 20 (h_L 16 f (h_L 12 e (h_L 8 c (h_L 4 b (h_L 0 a [(2, 3), (0, 10)])))))) (by unfold h_F; rw [List.length_set, List.length_set]; exact p_len) a b c e f [] 19
  rw [m_F_eq (by unfold h_F; rw [List.getElem?_set_ne (by decide), List.getElem?_set_ne (by decide)]; exact e_224) (by unfold h_F; rw [List.getElem?_set_ne (by decide), List.getElem?_set_ne (by decide)]; exact e_226)] at h2
  exact ⟨_, _, E2, h1, h2, _, _, q_ob e_0 rfl, q_ob (by unfold h_F; rw [List.getElem?_set_ne (by decide), List.getElem?_set_ne (by decide)]; exact e_224) rfl⟩
set_option maxRecDepth 100000 in
theorem two_ask0 : q_chB 18 41 [.int 0] = true := by decide +kernel
theorem two_ask (k : Int32) : q_two 18 41 [.int k] := by
  by_cases hk : k < 0
  · exact q_two_same rfl rfl (s_askB hk) (t_askB hk)
  · by_cases h0 : k ≤ 0
    · have : k = 0 := Int32.le_antisymm h0 (Int32.not_lt.mp hk)
      subst this
      exact q_chB_s two_ask0
    · exact q_two_same rfl rfl (s_askC hk h0) (t_askC hk h0)
theorem two_answer (k : Int32) : q_two 21 56 [.int k] := q_two_same rfl rfl (s_ans k 19) (t_ans k 19)
theorem two_number (a k : Int32) : q_two 23 59 [.int a, .int k] := q_two_same rfl rfl (s_num a k 18) (t_num a k 18)
theorem two_size (a k : Int32) : q_two 24 60 [.int a, .int k] := q_two_same rfl rfl (s_siz a k 18) (t_siz a k 18)
theorem two_byteAt (a k i : Int32) : q_two 25 61 [.int a, .int k, .int i] := q_two_same rfl rfl (s_byt a k i 18) (t_byt a k i 18)
set_option maxRecDepth 100000 in
theorem two_st : [0, 1, 2, 3, 4, 5, 6, 7].all (fun k : Int32 => q_chB 22 57 [.int k]) = true := by decide +kernel
theorem two_state (k : Int32) : q_two 22 57 [.int k] := by
  by_cases hm : k ∈ ([0, 1, 2, 3, 4, 5, 6, 7] : List Int32)
  · exact q_chB_s (List.all_eq_true.mp two_st k hm)
  · simp only [List.mem_cons, List.not_mem_nil, or_false, not_or] at hm
    obtain ⟨h0, h1, h2, h3, h4, h5, h6, h7⟩ := hm
    have hq : k.toInt < 0 ∨ 7 < k.toInt := by
      have g0 : k.toInt ≠ 0 := fun h => h0 (Int32.toInt_inj.mp h)
      have g1 : k.toInt ≠ 1 := fun h => h1 (Int32.toInt_inj.mp h)
      have g2 : k.toInt ≠ 2 := fun h => h2 (Int32.toInt_inj.mp h)
      have g3 : k.toInt ≠ 3 := fun h => h3 (Int32.toInt_inj.mp h)
      have g4 : k.toInt ≠ 4 := fun h => h4 (Int32.toInt_inj.mp h)
      have g5 : k.toInt ≠ 5 := fun h => h5 (Int32.toInt_inj.mp h)
      have g6 : k.toInt ≠ 6 := fun h => h6 (Int32.toInt_inj.mp h)
      have g7 : k.toInt ≠ 7 := fun h => h7 (Int32.toInt_inj.mp h)
      omega
    exact q_two_same rfl rfl (s_sta hq) (t_sta h0 h1 h2 h3 h4 h5 h6 h7)
end
section
/-! the reference's constructor drops eight trees: each by itself -/
def p_l (n : Nat) (v : Int32) (j : Nat) : List (Nat × Int32) := (List.range j).reverse.map (fun x => (n * x, v))
def p_M (j : Nat) : q_H := [
  .inr (12, [.ref 450, .ref 452, .int 0, .int 0, .int 0, .int 0, .int 0, .int 0, .int 0, .ref 454, .int 0, .int 0, .ref 456, .int 0, .int 0, .int 0, .int 0, .int 0, .ref 458, .int 0, .ref 460, .int 0, .ref 462, .int 0, .int 0, .int 0, .int 0, .int 0, .int 0, .int 0, .ref 464, .ref 466, .int 0, .int 0, .ref 468, .ref 470, .ref 472, .ref 474, .ref 476, .ref 478, .int 0, .int 0, .int 0, .int 0, .int 0, .ref 480, .ref 482, .int (-1), .ref 484, .ref 486, .ref 488, .ref 490, .ref 492, .ref 494, .ref 496, .int 0, .int 0, .ref 498, .ref 500, .ref 502, .ref 504, .int 0, .ref 506, .ref 508, .int 0, .int 0, .int 0, .int 0, .ref 510, .ref 512, .ref 514, .ref 516, .ref 518, .ref 520, .ref 522, .ref 524, .ref 526, .int 0]),
  .inl (0, 2706210, .inl [(2706200, 10)]),
  .inl (1, 2000, .inl []),
  .inl (1, 80000, .inl []),
  .inl (1, 12, .inl []),
  .inl (1, 200, .inl []),
  .inl (1, 200, .inl []),
  .inl (1, 200, .inl []),
  .inl (1, 200, .inl []),
  .inl (1, 200, .inl []),
  .inl (1, 800, .inl []),
  .inl (2, 8, .inl []),
  .inl (1, 8, .inl []),
  .inl (1, 16, .inl []),
  .inl (2, 16, .inl []),
  .inl (2, 16, .inl []),
  .inl (2, 12000, .inl []),
  .inl (1, 12000, .inl []),
  .inl (2, 4800, .inl (p_l 600 1 j)),
  .inl (2, 4800, .inl (p_l 600 1 j)),
  .inl (1, 4800, .inl (p_l 600 0 j)),
  .inl (1, 48000, .inl []),
  .inl (1, 48000, .inl []),
  .inl (1, 8, .inl (p_l 1 0 j)),
  .inl (1, 8, .inl (p_l 1 0 j)),
  .inl (1, 6000, .inl []),
  .inl (1, 6000, .inl []),
  .inl (2, 6000, .inl []),
  .inl (2, 6000, .inl []),
  .inl (1, 200, .inl []),
  .inl (2, 200, .inl []),
  .inl (1, 2, .inl []),
  .inl (1, 2, .inl []),
  .inl (1, 2, .inl [(1, 1), (0, 1)]),
  .inl (1, 400, .inl []),
  .inl (1, 400, .inl []),
  .inl (2, 400, .inl []),
  .inl (2, 200, .inl []),
  .inl (2, 200, .inl []),
  .inl (1, 8, .inl [])]
def p_P (j : Nat) : q_H := p_EH ++ p_M j
set_option maxRecDepth 1000000 in
theorem p_dt0 : q_callf 100000 19 13 [.ref 448, .int 0] (p_P 0) = some (none, p_P 1, 0, 0) := q_eqX_s (by decide +kernel)
set_option maxRecDepth 1000000 in
theorem p_dt1 : q_callf 100000 19 13 [.ref 448, .int 1] (p_P 1) = some (none, p_P 2, 0, 0) := q_eqX_s (by decide +kernel)
set_option maxRecDepth 1000000 in
theorem p_dt2 : q_callf 100000 19 13 [.ref 448, .int 2] (p_P 2) = some (none, p_P 3, 0, 0) := q_eqX_s (by decide +kernel)
set_option maxRecDepth 1000000 in
theorem p_dt3 : q_callf 100000 19 13 [.ref 448, .int 3] (p_P 3) = some (none, p_P 4, 0, 0) := q_eqX_s (by decide +kernel)
set_option maxRecDepth 1000000 in
theorem p_dt4 : q_callf 100000 19 13 [.ref 448, .int 4] (p_P 4) = some (none, p_P 5, 0, 0) := q_eqX_s (by decide +kernel)
set_option maxRecDepth 1000000 in
theorem p_dt5 : q_callf 100000 19 13 [.ref 448, .int 5] (p_P 5) = some (none, p_P 6, 0, 0) := q_eqX_s (by decide +kernel)
set_option maxRecDepth 1000000 in
theorem p_dt6 : q_callf 100000 19 13 [.ref 448, .int 6] (p_P 6) = some (none, p_P 7, 0, 0) := q_eqX_s (by decide +kernel)
set_option maxRecDepth 1000000 in
theorem p_dt7 : q_callf 100000 19 13 [.ref 448, .int 7] (p_P 7) = some (none, p_P 8, 0, 0) := q_eqX_s (by decide +kernel)
end
section
/-! the two constructors, exactly -/
set_option maxRecDepth 100000 in
theorem p_house : q_callf 4000 20 11 [.ref 0] p_E0 = some (none, p_EH, 223, 283975) := q_eqX_s (by decide +kernel)
def p_E1 : q_H := p_EH ++ [.inr (12, (List.range 78).map (fun j => defaultValue (q_Ty 12 j)))]
/-- what a dropped tree comes to, by its number -/
def p_tb (y : Nat) (as : List Value) (E : q_H) : Option q_X := bif y == 13 then (match as with
  | [.ref a, .int k] => bif a == 448 && decide (k.toNatClampNeg < 8) && decide (k = Int32.ofNat k.toNatClampNeg) && q_eqH E (p_P k.toNatClampNeg) then some (none, p_P (k.toNatClampNeg + 1), 0, 0) else none
  | _ => none) else none
theorem p_dt : ∀ j, j < 8 → q_callf 100000 19 13 [.ref 448, .int (Int32.ofNat j)] (p_P j) = some (none, p_P (j + 1), 0, 0)
  | 0, _ => p_dt0
  | 1, _ => p_dt1
  | 2, _ => p_dt2
  | 3, _ => p_dt3
  | 4, _ => p_dt4
  | 5, _ => p_dt5
  | 6, _ => p_dt6
  | 7, _ => p_dt7
  | j + 8, h => absurd h (by omega)
theorem p_tb_s {y : Nat} {as : List Value} {E : q_H} {x : q_X} (h : p_tb y as E = some x) : q_callf 100000 19 y as E = some x := by
  unfold p_tb at h
  cases hy : y == 13 with
  | false => rw [hy] at h; cases h
  | true =>
    rw [hy] at h
    have e1 := eq_of_beq hy
    subst e1
    dsimp only [cond_true] at h
    split at h
    · rename_i a k
      cases hb : (a == 448 && decide (k.toNatClampNeg < 8) && decide (k = Int32.ofNat k.toNatClampNeg) && q_eqH E (p_P k.toNatClampNeg)) with
      | false => rw [hb] at h; cases h
      | true =>
        rw [hb] at h
        cases h
        simp only [Bool.and_eq_true, beq_iff_eq, decide_eq_true_eq] at hb
        obtain ⟨⟨⟨rfl, h2⟩, h3⟩, h4⟩ := hb
        have h5 := p_dt _ h2
        rw [← h3] at h5
        rw [q_eqH_s h4]
        exact h5
    · cases h
def p_call (y : Nat) (as : List Value) (E : q_H) : Option q_X := match p_tb y as E with
  | some x => some x
  | none => q_callf 100000 19 y as E
theorem p_call_eq : p_call = q_callf 100000 19 := by
  funext y as E
  unfold p_call
  split
  · rename_i x h
    exact (p_tb_s h).symm
  · rfl
set_option maxRecDepth 1000000 in
theorem p_run12 : q_eqX (q_run p_call (q_own 12) (q_maxL 12) (q_ini 12) (q_code 12) (q_ret 12) 100000 0 [(0, .ref 448)] [] p_E1 0 0) none (p_EH ++ p_EM) 39 2950516 = true := by decide +kernel
theorem p_model : q_callf 100000 20 12 [.ref 448] p_E1 = some (none, p_EH ++ p_EM, 39, 2950516) := by
  refine q_cg rfl ?_
  rw [← p_call_eq]
  exact q_eqX_s p_run12
end
section
/-! THE CLAIM OUT OF ONE WALK OF THE LAW'S BODY. Your part is whole_start (and what it stands on); all else here is the same for every law, but numbers. -/
def R_law : String := "DocumentHouseLaw"
def lw_P (b : Addr) (xs : List Int32) (args : Array Value) (s : State) : Prop := args = #[.ref b] ∧ s.IntsAt b xs ∧ xs.length ≤ 6 ∧ (Jvm.Cond.and given_1 narrow_1).before args s = true
def lw_Q (_ : Array Value) (s : State) (o : Outcome) (t : State) : Prop := o = .returned (some (.int 1)) ∧ Framed s o t [] 396798 7911856
def lw_Z (below : List Frame) (a : Array Value) (s : State) : State → Prop := fun t => ∃ o, t.status = .running ∧ Ended t below o ∧ lw_Q a s o t
/-- the law's own end, with 1 on the stack, nothing written that was there before, its room as the claim has it -/
theorem lw_ret {p : Program} {l : Launch} {e : Env} {s : State} {m : MethodId} {below : List Frame} {meth : Method} {c : Code} {b : Nat} (hx : p.tables.exec = Jvm.exec) (hb : c.code = code) (hr : meth.sig.returnType = ret) (hlocks : meth.locks = false) {pc : Nat} {H : Heap} {ls : Array Slot} (hdg : decode code pc = .ok (.ireturn, 1)) : W p l e room_1 s m #[Value.ref b] below meth c H [] 396798 7911856 (lw_Z below #[Value.ref b] s) (F0 m pc ls [.int 1]) := by
  intro T hT X
  obtain ⟨fs, hret, hrun, hended, hW, hframe⟩ := X.leave (v := some (.int 1)) (hlocks := hlocks) (fun h => by rw [hr] at h; cases h)
  have hmeth' : T.vm.method? m = some meth := X.method'
  refine ⟨T.setFrames fs, ?_, .returned (some (.int 1)), hrun, hended, rfl, ⟨_, rfl⟩, hW, hframe⟩
  jvm_step X.here [X.here.top, hx, hb, hdg, hmeth', hr, ret, narrow_b1]
  (try refine ⟨rfl, ?_⟩); (try refine ⟨rfl, ?_⟩)
  first | (intro acts; rw [hret _ acts rfl rfl rfl]) | rw [hret _ _ rfl rfl rfl]
  exact Steps.refl _
/-- what holds at the law's entry: the machine, the code, the tables' words (any of lw_tbl by 'hts w (by decide +kernel)'), the script of L ints xs at the cell b, what the Statement gives of the start (any of its parts by flat_of_before) -/
def lw_At (p : Program) (s : State) (m : MethodId) (meth : Method) (c : Code) (b L : Nat) (xs : Nat → Int32) : Prop :=
  p.tables.exec = Jvm.exec ∧ c.code = code ∧ meth.sig.returnType = ret ∧ c.maxLocals = 4 ∧ s.vm.findClass R_law = some m.cls ∧ (∀ w ∈ lw_tbl, w.before #[Value.ref b] s = true) ∧ va_X b L xs s s.heap ∧ b < s.heap.size ∧ meth.locks = false ∧ (Jvm.Cond.and given_1 narrow_1).before #[Value.ref b] s = true
/-! the law's entry: what the Statement gives of the start, in the pure machine's words -/
theorem l_known {s : State} {args : Array Value} (hts : ∀ w ∈ q_big, w.before args s = true) : ∃ (f : Nat → ClassId) (g : Nat → Nat → Nat), ∀ ci, ci < 13 → u_Kn s (q_R ci) (q_TX ci) (q_N ci) (f ci) (g ci) := by
  have h0 : ∀ ci, ci < 13 → ∃ (cC : ClassId) (iS : Nat → Nat), u_Kn s (q_R ci) (q_TX ci) (q_N ci) cC iS := fun ci h => u_known (ws := q_big) hts (q_lay_big h) (hts _ (q_mem (q_inst _ h) rfl))
  obtain ⟨c0, i0, -⟩ := h0 0 (by decide)
  have h1 : ∀ ci, ∃ q : ClassId × (Nat → Nat), ci < 13 → u_Kn s (q_R ci) (q_TX ci) (q_N ci) q.1 q.2 := by
    intro ci
    by_cases h : ci < 13
    · obtain ⟨a, b, hab⟩ := h0 ci h
      exact ⟨(a, b), fun _ => hab⟩
    · exact ⟨(c0, i0), fun h2 => absurd h2 h⟩
  obtain ⟨f, hf⟩ := Classical.skolem.mp h1
  exact ⟨fun ci => (f ci).1, fun ci => (f ci).2, hf⟩
theorem l_arr {s : State} {args : Array Value} {ty : FieldType} (h : (Cond.arrayClass ty).before args s = true) : ∃ c : ClassId, ArrOfT s c ty ∧ s.vm.findClass ("[" ++ ty.toString) = some c := by
  obtain ⟨c, k, comp, h1, h2, h3⟩ := Cond.arrayClass_spec h
  exact ⟨c, fun n z => ⟨(fun k h => by cases h), k, h2, comp, h3⟩, h1⟩
theorem l_arq {s : State} {args : Array Value} {C : String} (h : (Cond.arrayOver (.object C)).before args s = true) : ∃ c : ClassId, ArrOfT s c (.object C) ∧ va_RA s c (.object C) := by
  obtain ⟨comp, c, k, h1, -, h3, h4, h5⟩ := Cond.arrayOver_spec h
  exact ⟨c, fun n z => ⟨(fun k h => by cases h), k, h3, comp, h4⟩, k, comp, h3, h4, h1, h5⟩
theorem l_aoa {s : State} {args : Array Value} (h : (Cond.arrayOver (.array .int)).before args s = true) : ∃ c : ClassId, ArrOfT s c (.array .int) ∧ s.vm.findClass ("[" ++ (FieldType.array .int).toString) = some c := by
  simp only [Cond.before, Cond.holds, Cond.value, beq_iff_eq] at h
  cases hc : s.vm.findClass (FieldType.array .int).toString with
  | none => simp [hc] at h
  | some comp =>
    simp only [hc, Option.bind_some, Option.bind_eq_some_iff, Option.map_eq_some_iff] at h
    obtain ⟨c, hi, k, hk, hb⟩ := h
    obtain ⟨hlt, hp, -⟩ := Array.findIdx?_eq_some_iff_getElem.mp hi
    have hkk : s.vm.classes[c] = k := (Array.getElem?_eq_some_iff.mp hk).2
    rw [hkk] at hp
    cases hkind : k.kind with
    | array component ty =>
      rw [hkind] at hb hp
      simp at hb hp
      exact ⟨c, fun n z => ⟨(fun k h => by cases h), k, hk, comp, by rw [hkind, hp, hb.1]⟩, hb.2⟩
    | _ => rw [hkind] at hb; simp at hb
theorem l_K {s : State} {args : Array Value} (hts : ∀ w ∈ lw_tbl, w.before args s = true) : ∃ (D : va_G) (cy : Nat → ClassId), va_K D vwCl (q_tys cy) s := by
  have htb : ∀ w ∈ q_big, w.before args s = true := fun w h => hts w (List.mem_filter.mp h).1
  obtain ⟨f, g, h1⟩ := l_known htb
  obtain ⟨c0, a0, b0⟩ := l_arr (hts _ q_acB)
  obtain ⟨c1, a1, b1⟩ := l_arr (hts _ q_acI)
  obtain ⟨c2, a2, b2⟩ := l_arr (hts _ q_acZ)
  obtain ⟨c3, a3, b3⟩ := l_arq (hts (.arrayOver (.object "DocumentHouse$Index")) (q_lwt (i := 322) (by decide +kernel)))
  obtain ⟨c4, a4, b4⟩ := l_arq (hts (.arrayOver (.object "DocumentHouse$Shelf")) (q_lwt (i := 312) (by decide +kernel)))
  obtain ⟨c5, a5, b5⟩ := l_aoa (hts (.arrayOver (.array .int)) (q_lwt (i := 217) (by decide +kernel)))
  refine ⟨(f, g), fun k => match k with
    | 0 => c0
    | 1 => c1
    | 2 => c2
    | 3 => c3
    | 4 => c4
    | _ => c5, ?_, ?_⟩
  · intro c q hq
    have hc : c < 13 := (List.getElem?_eq_some_iff.mp hq).1
    rw [q_vw c hc] at hq
    cases hq
    exact h1 c hc
  · intro k q hk
    match k, hk with
    | 0, hk => cases hk; exact ⟨a0, b0⟩
    | 1, hk => cases hk; exact ⟨a1, b1⟩
    | 2, hk => cases hk; exact ⟨a2, b2⟩
    | 3, hk => cases hk; exact ⟨a3, b3⟩
    | 4, hk => cases hk; exact ⟨a4, b4⟩
    | 5, hk => cases hk; exact ⟨a5, b5⟩
    | k + 6, hk => simp [q_tys] at hk
theorem l_str0 {s : State} {args : Array Value} {A : Nat → Prop} (hg : (Jvm.Cond.and given_1 narrow_1).before args s = true) (hA : ∀ a : Nat, a < s.heap.size → ¬ A a) : ∃ k v : Nat, (Term.string "DocumentHouse" 181).eval args s none [] s = some (.ref k) ∧ va_O "java/lang/String" k A s s.heap ∧ va_OF "java/lang/String" "coder" "B" (.int 0) k A s s.heap ∧ va_OF "java/lang/String" "value" "[B" (.ref v) k A s s.heap ∧ va_T .byte v (q_sb 0).length (fun i => .int ((q_sb 0).getD i 0)) A s s.heap := by
  have hs := flat_of_before _ hg
  obtain ⟨adK, adV, h1, h2⟩ := vk_Sof (args := args) (s := s) (N := 1) (tm := fun _ => Term.string "DocumentHouse" 181) (len := [5]) (byt := [q_sb 0]) (A := A) (fun i hi => by
    rw [show i = 0 by omega]
    decide) (fun i hi => hs (.exactly (.string "DocumentHouse" 181) "java/lang/String") (by decide +kernel)) (fun i hi => hs (.eq (.field (.string "DocumentHouse" 181) "java/lang/String" "coder" "B") (.int 0)) (by decide +kernel)) (fun i hi => hs (.arrayOf (.field (.string "DocumentHouse" 181) "java/lang/String" "value" "[B") .byte) (by decide +kernel)) (fun i hi => by
    rw [show i = 0 by omega]
    exact hs (.eq (.length (.field (.string "DocumentHouse" 181) "java/lang/String" "value" "[B")) (.int 5)) (by decide +kernel)) (fun i hi j hj => by
    rw [show i = 0 by omega] at hj ⊢
    have hj : j < 5 := hj
    match j, hj with
    | 0, _ => exact hs (.eq (.elem (.field (.string "DocumentHouse" 181) "java/lang/String" "value" "[B") (.int 0)) (.int 102)) (by decide +kernel)
    | 1, _ => exact hs (.eq (.elem (.field (.string "DocumentHouse" 181) "java/lang/String" "value" "[B") (.int 1)) (.int 97)) (by decide +kernel)
    | 2, _ => exact hs (.eq (.elem (.field (.string "DocumentHouse" 181) "java/lang/String" "value" "[B") (.int 2)) (.int 117)) (by decide +kernel)
    | 3, _ => exact hs (.eq (.elem (.field (.string "DocumentHouse" 181) "java/lang/String" "value" "[B") (.int 3)) (.int 108)) (by decide +kernel)
    | 4, _ => exact hs (.eq (.elem (.field (.string "DocumentHouse" 181) "java/lang/String" "value" "[B") (.int 4)) (.int 116)) (by decide +kernel)
    | i + 5, h => exact absurd h (by omega)) (fun i j hi hj h => absurd (show i = j by omega) h) hA
  obtain ⟨g1, g2, g3, g4⟩ := h1.1 0 (by decide)
  exact ⟨adK 0, adV 0, h2 0 (by decide), g1, g2, g3, g4⟩
theorem l_str1 {s : State} {args : Array Value} {A : Nat → Prop} (hg : (Jvm.Cond.and given_1 narrow_1).before args s = true) (hA : ∀ a : Nat, a < s.heap.size → ¬ A a) : ∃ k v : Nat, (Term.string "DocumentHouse" 186).eval args s none [] s = some (.ref k) ∧ va_O "java/lang/String" k A s s.heap ∧ va_OF "java/lang/String" "coder" "B" (.int 0) k A s s.heap ∧ va_OF "java/lang/String" "value" "[B" (.ref v) k A s s.heap ∧ va_T .byte v (q_sb 1).length (fun i => .int ((q_sb 1).getD i 0)) A s s.heap := by
  have hs := flat_of_before _ hg
  obtain ⟨adK, adV, h1, h2⟩ := vk_Sof (args := args) (s := s) (N := 1) (tm := fun _ => Term.string "DocumentHouse" 186) (len := [5]) (byt := [q_sb 1]) (A := A) (fun i hi => by
    rw [show i = 0 by omega]
    decide) (fun i hi => hs (.exactly (.string "DocumentHouse" 186) "java/lang/String") (by decide +kernel)) (fun i hi => hs (.eq (.field (.string "DocumentHouse" 186) "java/lang/String" "coder" "B") (.int 0)) (by decide +kernel)) (fun i hi => hs (.arrayOf (.field (.string "DocumentHouse" 186) "java/lang/String" "value" "[B") .byte) (by decide +kernel)) (fun i hi => by
    rw [show i = 0 by omega]
    exact hs (.eq (.length (.field (.string "DocumentHouse" 186) "java/lang/String" "value" "[B")) (.int 5)) (by decide +kernel)) (fun i hi j hj => by
    rw [show i = 0 by omega] at hj ⊢
    have hj : j < 5 := hj
    match j, hj with
    | 0, _ => exact hs (.eq (.elem (.field (.string "DocumentHouse" 186) "java/lang/String" "value" "[B") (.int 0)) (.int 112)) (by decide +kernel)
    | 1, _ => exact hs (.eq (.elem (.field (.string "DocumentHouse" 186) "java/lang/String" "value" "[B") (.int 1)) (.int 108)) (by decide +kernel)
    | 2, _ => exact hs (.eq (.elem (.field (.string "DocumentHouse" 186) "java/lang/String" "value" "[B") (.int 2)) (.int 97)) (by decide +kernel)
    | 3, _ => exact hs (.eq (.elem (.field (.string "DocumentHouse" 186) "java/lang/String" "value" "[B") (.int 3)) (.int 99)) (by decide +kernel)
    | 4, _ => exact hs (.eq (.elem (.field (.string "DocumentHouse" 186) "java/lang/String" "value" "[B") (.int 4)) (.int 101)) (by decide +kernel)
    | i + 5, h => exact absurd h (by omega)) (fun i j hi hj h => absurd (show i = j by omega) h) hA
  obtain ⟨g1, g2, g3, g4⟩ := h1.1 0 (by decide)
  exact ⟨adK 0, adV 0, h2 0 (by decide), g1, g2, g3, g4⟩
theorem l_str2 {s : State} {args : Array Value} {A : Nat → Prop} (hg : (Jvm.Cond.and given_1 narrow_1).before args s = true) (hA : ∀ a : Nat, a < s.heap.size → ¬ A a) : ∃ k v : Nat, (Term.string "DocumentHouseModel" 1025).eval args s none [] s = some (.ref k) ∧ va_O "java/lang/String" k A s s.heap ∧ va_OF "java/lang/String" "coder" "B" (.int 0) k A s s.heap ∧ va_OF "java/lang/String" "value" "[B" (.ref v) k A s s.heap ∧ va_T .byte v (q_sb 2).length (fun i => .int ((q_sb 2).getD i 0)) A s s.heap := by
  have hs := flat_of_before _ hg
  obtain ⟨adK, adV, h1, h2⟩ := vk_Sof (args := args) (s := s) (N := 1) (tm := fun _ => Term.string "DocumentHouseModel" 1025) (len := [5]) (byt := [q_sb 2]) (A := A) (fun i hi => by
    rw [show i = 0 by omega]
    decide) (fun i hi => hs (.exactly (.string "DocumentHouseModel" 1025) "java/lang/String") (by decide +kernel)) (fun i hi => hs (.eq (.field (.string "DocumentHouseModel" 1025) "java/lang/String" "coder" "B") (.int 0)) (by decide +kernel)) (fun i hi => hs (.arrayOf (.field (.string "DocumentHouseModel" 1025) "java/lang/String" "value" "[B") .byte) (by decide +kernel)) (fun i hi => by
    rw [show i = 0 by omega]
    exact hs (.eq (.length (.field (.string "DocumentHouseModel" 1025) "java/lang/String" "value" "[B")) (.int 5)) (by decide +kernel)) (fun i hi j hj => by
    rw [show i = 0 by omega] at hj ⊢
    have hj : j < 5 := hj
    match j, hj with
    | 0, _ => exact hs (.eq (.elem (.field (.string "DocumentHouseModel" 1025) "java/lang/String" "value" "[B") (.int 0)) (.int 102)) (by decide +kernel)
    | 1, _ => exact hs (.eq (.elem (.field (.string "DocumentHouseModel" 1025) "java/lang/String" "value" "[B") (.int 1)) (.int 97)) (by decide +kernel)
    | 2, _ => exact hs (.eq (.elem (.field (.string "DocumentHouseModel" 1025) "java/lang/String" "value" "[B") (.int 2)) (.int 117)) (by decide +kernel)
    | 3, _ => exact hs (.eq (.elem (.field (.string "DocumentHouseModel" 1025) "java/lang/String" "value" "[B") (.int 3)) (.int 108)) (by decide +kernel)
    | 4, _ => exact hs (.eq (.elem (.field (.string "DocumentHouseModel" 1025) "java/lang/String" "value" "[B") (.int 4)) (.int 116)) (by decide +kernel)
    | i + 5, h => exact absurd h (by omega)) (fun i j hi hj h => absurd (show i = j by omega) h) hA
  obtain ⟨g1, g2, g3, g4⟩ := h1.1 0 (by decide)
  exact ⟨adK 0, adV 0, h2 0 (by decide), g1, g2, g3, g4⟩
theorem l_str3 {s : State} {args : Array Value} {A : Nat → Prop} (hg : (Jvm.Cond.and given_1 narrow_1).before args s = true) (hA : ∀ a : Nat, a < s.heap.size → ¬ A a) : ∃ k v : Nat, (Term.string "DocumentHouseModel" 1026).eval args s none [] s = some (.ref k) ∧ va_O "java/lang/String" k A s s.heap ∧ va_OF "java/lang/String" "coder" "B" (.int 0) k A s s.heap ∧ va_OF "java/lang/String" "value" "[B" (.ref v) k A s s.heap ∧ va_T .byte v (q_sb 3).length (fun i => .int ((q_sb 3).getD i 0)) A s s.heap := by
  have hs := flat_of_before _ hg
  obtain ⟨adK, adV, h1, h2⟩ := vk_Sof (args := args) (s := s) (N := 1) (tm := fun _ => Term.string "DocumentHouseModel" 1026) (len := [5]) (byt := [q_sb 3]) (A := A) (fun i hi => by
    rw [show i = 0 by omega]
    decide) (fun i hi => hs (.exactly (.string "DocumentHouseModel" 1026) "java/lang/String") (by decide +kernel)) (fun i hi => hs (.eq (.field (.string "DocumentHouseModel" 1026) "java/lang/String" "coder" "B") (.int 0)) (by decide +kernel)) (fun i hi => hs (.arrayOf (.field (.string "DocumentHouseModel" 1026) "java/lang/String" "value" "[B") .byte) (by decide +kernel)) (fun i hi => by
    rw [show i = 0 by omega]
    exact hs (.eq (.length (.field (.string "DocumentHouseModel" 1026) "java/lang/String" "value" "[B")) (.int 5)) (by decide +kernel)) (fun i hi j hj => by
    rw [show i = 0 by omega] at hj ⊢
    have hj : j < 5 := hj
    match j, hj with
    | 0, _ => exact hs (.eq (.elem (.field (.string "DocumentHouseModel" 1026) "java/lang/String" "value" "[B") (.int 0)) (.int 112)) (by decide +kernel)
    | 1, _ => exact hs (.eq (.elem (.field (.string "DocumentHouseModel" 1026) "java/lang/String" "value" "[B") (.int 1)) (.int 108)) (by decide +kernel)
    | 2, _ => exact hs (.eq (.elem (.field (.string "DocumentHouseModel" 1026) "java/lang/String" "value" "[B") (.int 2)) (.int 97)) (by decide +kernel)
    | 3, _ => exact hs (.eq (.elem (.field (.string "DocumentHouseModel" 1026) "java/lang/String" "value" "[B") (.int 3)) (.int 99)) (by decide +kernel)
    | 4, _ => exact hs (.eq (.elem (.field (.string "DocumentHouseModel" 1026) "java/lang/String" "value" "[B") (.int 4)) (.int 101)) (by decide +kernel)
    | i + 5, h => exact absurd h (by omega)) (fun i j hi hj h => absurd (show i = j by omega) h) hA
  obtain ⟨g1, g2, g3, g4⟩ := h1.1 0 (by decide)
  exact ⟨adK 0, adV 0, h2 0 (by decide), g1, g2, g3, g4⟩
theorem l_at {s : State} {args : Array Value} (hts : ∀ w ∈ lw_tbl, w.before args s = true) (hg : (Jvm.Cond.and given_1 narrow_1).before args s = true) : ∃ ad : Nat → Nat, q_T ad s ∧ q_SF ad s.heap.size s s.heap := by
  have hs := flat_of_before _ hg
  have hA : ∀ a : Nat, a < s.heap.size → ¬ (fun q => s.heap.size ≤ q) a := fun a h => Nat.not_le.mpr h
  obtain ⟨k0, v0, e0, a0, b0, c0, d0⟩ := l_str0 hg hA
  obtain ⟨k1, v1, e1, a1, b1, c1, d1⟩ := l_str1 hg hA
  obtain ⟨k2, v2, e2, a2, b2, c2, d2⟩ := l_str2 hg hA
  obtain ⟨k3, v3, e3, a3, b3, c3, d3⟩ := l_str3 hg hA
  refine ⟨fun i => match i with
    | 0 => k0
    | 1 => v0
    | 2 => k1
    | 3 => v1
    | 4 => k2
    | 5 => v2
    | 6 => k3
    | _ => v3, ⟨fun w hw => ?_, fun q hq => ?_, va_AO.of (hts (.arrayOver (.object "DocumentHouse$Index")) (q_lwt (i := 322) (by decide +kernel))), va_AO.of (hts (.arrayOver (.object "DocumentHouse$Shelf")) (q_lwt (i := 312) (by decide +kernel))), hts (.arrayOver (.array .int)) (q_lwt (i := 217) (by decide +kernel))⟩, ?_, ?_, ?_⟩
  · have h1 := (List.mem_filter.mp hw).1
    have h2 := (List.mem_filter.mp hw).2
    unfold q_isN at h2
    split at h2
    · exact va_Nw.of rfl (hts _ h1)
    · exact va_Nw.of rfl (hts _ h1)
    · cases h2
  · have h3 : q = ("DocumentHouse", 181, "fault", 0) ∨ q = ("DocumentHouse", 186, "place", 2) ∨ q = ("DocumentHouseModel", 1025, "fault", 4) ∨ q = ("DocumentHouseModel", 1026, "place", 6) := by
      simpa [q_strs] using hq
    rcases h3 with rfl | rfl | rfl | rfl
    · exact vk_R.of (hts (.stringRef "DocumentHouse" 181 "fault") (q_lwt (i := 1672) (by decide +kernel))) e0
    · exact vk_R.of (hts (.stringRef "DocumentHouse" 186 "place") (q_lwt (i := 1673) (by decide +kernel))) e1
    · exact vk_R.of (hts (.stringRef "DocumentHouseModel" 1025 "fault") (q_lwt (i := 2838) (by decide +kernel))) e2
    · exact vk_R.of (hts (.stringRef "DocumentHouseModel" 1026 "place") (q_lwt (i := 2839) (by decide +kernel))) e3
  · exact va_Zof (hts (.laysStatic "java/lang/String" "COMPACT_STRINGS" "Z") (q_lwt (i := 676) (by decide +kernel))) (hts (.initialized "java/lang/String") (q_lwt (i := 16) (by decide +kernel))) (va_eqi (hs (.eq (.static "java/lang/String" "COMPACT_STRINGS" "Z") (.int 1)) (by decide +kernel))) hA
  · exact va_Zqof (hts (.laysStatic "jdk/internal/util/Preconditions" "SIOOBE_FORMATTER" "Ljava/util/function/BiFunction;") (q_lwt (i := 692) (by decide +kernel))) (hts (.initialized "jdk/internal/util/Preconditions") (q_lwt (i := 18) (by decide +kernel))) (hs (.isRef (.static "jdk/internal/util/Preconditions" "SIOOBE_FORMATTER" "Ljava/util/function/BiFunction;")) (by decide +kernel)) hA
  · intro j hj
    match j, hj with
    | 0, _ => exact ⟨a0, b0, c0, d0⟩
    | 1, _ => exact ⟨a1, b1, c1, d1⟩
    | 2, _ => exact ⟨a2, b2, c2, d2⟩
    | 3, _ => exact ⟨a3, b3, c3, d3⟩
    | j + 4, h => exact absurd h (by unfold q_nS; omega)
end
section
/-! THE LAW, one call on fresh objects -/
theorem d_law_0 : decode code 0 = .ok (.new 7, 3) := by decide +kernel
theorem d_law_3 : decode code 3 = .ok (.dup, 1) := by decide +kernel
theorem d_law_4 : decode code 4 = .ok (.invokespecial 9, 3) := by decide +kernel
theorem d_law_7 : decode code 7 = .ok (.astore_n 1, 1) := by decide +kernel
theorem d_law_8 : decode code 8 = .ok (.new 10, 3) := by decide +kernel
theorem d_law_11 : decode code 11 = .ok (.dup, 1) := by decide +kernel
theorem d_law_12 : decode code 12 = .ok (.invokespecial 12, 3) := by decide +kernel
theorem d_law_15 : decode code 15 = .ok (.astore_n 2, 1) := by decide +kernel
theorem d_law_16 : decode code 16 = .ok (.iconst 0, 1) := by decide +kernel
theorem d_law_17 : decode code 17 = .ok (.istore_n 3, 1) := by decide +kernel
theorem d_law_18 : decode code 18 = .ok (.iload_n 3, 1) := by decide +kernel
theorem d_law_19 : decode code 19 = .ok (.aload_n 0, 1) := by decide +kernel
theorem d_law_20 : decode code 20 = .ok (.arraylength, 1) := by decide +kernel
theorem d_law_21 : decode code 21 = .ok (.bipush 6, 2) := by decide +kernel
theorem d_law_23 : decode code 23 = .ok (.isub, 1) := by decide +kernel
theorem d_law_24 : decode code 24 = .ok (.if_icmp .gt 299, 3) := by decide +kernel
theorem d_law_27 : decode code 27 = .ok (.aload_n 0, 1) := by decide +kernel
theorem d_law_28 : decode code 28 = .ok (.iload_n 3, 1) := by decide +kernel
theorem d_law_29 : decode code 29 = .ok (.iaload, 1) := by decide +kernel
theorem d_law_30 : decode code 30 = .ok (.bipush 7, 2) := by decide +kernel
theorem d_law_32 : decode code 32 = .ok (.iand, 1) := by decide +kernel
theorem d_law_33 : decode code 33 = .ok (.tableswitch 284 0 6 #[43, 106, 129, 152, 175, 208, 241], 43) := by decide +kernel
theorem d_law_76 : decode code 76 = .ok (.aload_n 1, 1) := by decide +kernel
theorem d_law_77 : decode code 77 = .ok (.aload_n 0, 1) := by decide +kernel
theorem d_law_78 : decode code 78 = .ok (.iload_n 3, 1) := by decide +kernel
theorem d_law_79 : decode code 79 = .ok (.iconst 1, 1) := by decide +kernel
theorem d_law_80 : decode code 80 = .ok (.iadd, 1) := by decide +kernel
theorem d_law_81 : decode code 81 = .ok (.iaload, 1) := by decide +kernel
theorem d_law_82 : decode code 82 = .ok (.aload_n 0, 1) := by decide +kernel
theorem d_law_83 : decode code 83 = .ok (.iload_n 3, 1) := by decide +kernel
theorem d_law_84 : decode code 84 = .ok (.iconst 2, 1) := by decide +kernel
theorem d_law_85 : decode code 85 = .ok (.iadd, 1) := by decide +kernel
theorem d_law_86 : decode code 86 = .ok (.iaload, 1) := by decide +kernel
theorem d_law_87 : decode code 87 = .ok (.aload_n 0, 1) := by decide +kernel
theorem d_law_88 : decode code 88 = .ok (.iload_n 3, 1) := by decide +kernel
theorem d_law_89 : decode code 89 = .ok (.iconst 3, 1) := by decide +kernel
theorem d_law_90 : decode code 90 = .ok (.iadd, 1) := by decide +kernel
theorem d_law_91 : decode code 91 = .ok (.iaload, 1) := by decide +kernel
theorem d_law_92 : decode code 92 = .ok (.aload_n 0, 1) := by decide +kernel
theorem d_law_93 : decode code 93 = .ok (.iload_n 3, 1) := by decide +kernel
theorem d_law_94 : decode code 94 = .ok (.iconst 4, 1) := by decide +kernel
theorem d_law_95 : decode code 95 = .ok (.iadd, 1) := by decide +kernel
theorem d_law_96 : decode code 96 = .ok (.iaload, 1) := by decide +kernel
theorem d_law_97 : decode code 97 = .ok (.aload_n 0, 1) := by decide +kernel
theorem d_law_98 : decode code 98 = .ok (.iload_n 3, 1) := by decide +kernel
theorem d_law_99 : decode code 99 = .ok (.iconst 5, 1) := by decide +kernel
theorem d_law_100 : decode code 100 = .ok (.iadd, 1) := by decide +kernel
theorem d_law_101 : decode code 101 = .ok (.iaload, 1) := by decide +kernel
theorem d_law_102 : decode code 102 = .ok (.invokevirtual 13, 3) := by decide +kernel
theorem d_law_105 : decode code 105 = .ok (.aload_n 2, 1) := by decide +kernel
theorem d_law_106 : decode code 106 = .ok (.aload_n 0, 1) := by decide +kernel
theorem d_law_107 : decode code 107 = .ok (.iload_n 3, 1) := by decide +kernel
theorem d_law_108 : decode code 108 = .ok (.iconst 1, 1) := by decide +kernel
theorem d_law_109 : decode code 109 = .ok (.iadd, 1) := by decide +kernel
theorem d_law_110 : decode code 110 = .ok (.iaload, 1) := by decide +kernel
theorem d_law_111 : decode code 111 = .ok (.aload_n 0, 1) := by decide +kernel
theorem d_law_112 : decode code 112 = .ok (.iload_n 3, 1) := by decide +kernel
theorem d_law_113 : decode code 113 = .ok (.iconst 2, 1) := by decide +kernel
theorem d_law_114 : decode code 114 = .ok (.iadd, 1) := by decide +kernel
theorem d_law_115 : decode code 115 = .ok (.iaload, 1) := by decide +kernel
theorem d_law_116 : decode code 116 = .ok (.aload_n 0, 1) := by decide +kernel
theorem d_law_117 : decode code 117 = .ok (.iload_n 3, 1) := by decide +kernel
theorem d_law_118 : decode code 118 = .ok (.iconst 3, 1) := by decide +kernel
theorem d_law_119 : decode code 119 = .ok (.iadd, 1) := by decide +kernel
theorem d_law_120 : decode code 120 = .ok (.iaload, 1) := by decide +kernel
theorem d_law_121 : decode code 121 = .ok (.aload_n 0, 1) := by decide +kernel
theorem d_law_122 : decode code 122 = .ok (.iload_n 3, 1) := by decide +kernel
theorem d_law_123 : decode code 123 = .ok (.iconst 4, 1) := by decide +kernel
theorem d_law_124 : decode code 124 = .ok (.iadd, 1) := by decide +kernel
theorem d_law_125 : decode code 125 = .ok (.iaload, 1) := by decide +kernel
theorem d_law_126 : decode code 126 = .ok (.aload_n 0, 1) := by decide +kernel
theorem d_law_127 : decode code 127 = .ok (.iload_n 3, 1) := by decide +kernel
theorem d_law_128 : decode code 128 = .ok (.iconst 5, 1) := by decide +kernel
theorem d_law_129 : decode code 129 = .ok (.iadd, 1) := by decide +kernel
theorem d_law_130 : decode code 130 = .ok (.iaload, 1) := by decide +kernel
theorem d_law_131 : decode code 131 = .ok (.invokevirtual 17, 3) := by decide +kernel
theorem d_law_134 : decode code 134 = .ok (.if_icmp .eq 183, 3) := by decide +kernel
theorem d_law_137 : decode code 137 = .ok (.iconst 0, 1) := by decide +kernel
theorem d_law_138 : decode code 138 = .ok (.ireturn, 1) := by decide +kernel
theorem d_law_139 : decode code 139 = .ok (.aload_n 1, 1) := by decide +kernel
theorem d_law_140 : decode code 140 = .ok (.aload_n 0, 1) := by decide +kernel
theorem d_law_141 : decode code 141 = .ok (.iload_n 3, 1) := by decide +kernel
theorem d_law_142 : decode code 142 = .ok (.iconst 1, 1) := by decide +kernel
theorem d_law_143 : decode code 143 = .ok (.iadd, 1) := by decide +kernel
theorem d_law_144 : decode code 144 = .ok (.iaload, 1) := by decide +kernel
theorem d_law_145 : decode code 145 = .ok (.invokevirtual 18, 3) := by decide +kernel
theorem d_law_148 : decode code 148 = .ok (.aload_n 2, 1) := by decide +kernel
theorem d_law_149 : decode code 149 = .ok (.aload_n 0, 1) := by decide +kernel
theorem d_law_150 : decode code 150 = .ok (.iload_n 3, 1) := by decide +kernel
theorem d_law_151 : decode code 151 = .ok (.iconst 1, 1) := by decide +kernel
theorem d_law_152 : decode code 152 = .ok (.iadd, 1) := by decide +kernel
theorem d_law_153 : decode code 153 = .ok (.iaload, 1) := by decide +kernel
theorem d_law_154 : decode code 154 = .ok (.invokevirtual 22, 3) := by decide +kernel
theorem d_law_157 : decode code 157 = .ok (.if_icmp .eq 160, 3) := by decide +kernel
theorem d_law_160 : decode code 160 = .ok (.iconst 0, 1) := by decide +kernel
theorem d_law_161 : decode code 161 = .ok (.ireturn, 1) := by decide +kernel
theorem d_law_162 : decode code 162 = .ok (.aload_n 1, 1) := by decide +kernel
theorem d_law_163 : decode code 163 = .ok (.aload_n 0, 1) := by decide +kernel
theorem d_law_164 : decode code 164 = .ok (.iload_n 3, 1) := by decide +kernel
theorem d_law_165 : decode code 165 = .ok (.iconst 1, 1) := by decide +kernel
theorem d_law_166 : decode code 166 = .ok (.iadd, 1) := by decide +kernel
theorem d_law_167 : decode code 167 = .ok (.iaload, 1) := by decide +kernel
theorem d_law_168 : decode code 168 = .ok (.invokevirtual 23, 3) := by decide +kernel
theorem d_law_171 : decode code 171 = .ok (.aload_n 2, 1) := by decide +kernel
theorem d_law_172 : decode code 172 = .ok (.aload_n 0, 1) := by decide +kernel
theorem d_law_173 : decode code 173 = .ok (.iload_n 3, 1) := by decide +kernel
theorem d_law_174 : decode code 174 = .ok (.iconst 1, 1) := by decide +kernel
theorem d_law_175 : decode code 175 = .ok (.iadd, 1) := by decide +kernel
theorem d_law_176 : decode code 176 = .ok (.iaload, 1) := by decide +kernel
theorem d_law_177 : decode code 177 = .ok (.invokevirtual 26, 3) := by decide +kernel
theorem d_law_180 : decode code 180 = .ok (.if_icmp .eq 137, 3) := by decide +kernel
theorem d_law_183 : decode code 183 = .ok (.iconst 0, 1) := by decide +kernel
theorem d_law_184 : decode code 184 = .ok (.ireturn, 1) := by decide +kernel
theorem d_law_185 : decode code 185 = .ok (.aload_n 1, 1) := by decide +kernel
theorem d_law_186 : decode code 186 = .ok (.aload_n 0, 1) := by decide +kernel
theorem d_law_187 : decode code 187 = .ok (.iload_n 3, 1) := by decide +kernel
theorem d_law_188 : decode code 188 = .ok (.iconst 1, 1) := by decide +kernel
theorem d_law_189 : decode code 189 = .ok (.iadd, 1) := by decide +kernel
theorem d_law_190 : decode code 190 = .ok (.iaload, 1) := by decide +kernel
theorem d_law_191 : decode code 191 = .ok (.invokevirtual 27, 3) := by decide +kernel
theorem d_law_194 : decode code 194 = .ok (.aload_n 2, 1) := by decide +kernel
theorem d_law_195 : decode code 195 = .ok (.aload_n 0, 1) := by decide +kernel
theorem d_law_196 : decode code 196 = .ok (.iload_n 3, 1) := by decide +kernel
theorem d_law_197 : decode code 197 = .ok (.iconst 1, 1) := by decide +kernel
theorem d_law_198 : decode code 198 = .ok (.iadd, 1) := by decide +kernel
theorem d_law_199 : decode code 199 = .ok (.iaload, 1) := by decide +kernel
theorem d_law_200 : decode code 200 = .ok (.invokevirtual 30, 3) := by decide +kernel
theorem d_law_203 : decode code 203 = .ok (.if_icmp .eq 114, 3) := by decide +kernel
theorem d_law_206 : decode code 206 = .ok (.iconst 0, 1) := by decide +kernel
theorem d_law_207 : decode code 207 = .ok (.ireturn, 1) := by decide +kernel
theorem d_law_208 : decode code 208 = .ok (.aload_n 1, 1) := by decide +kernel
theorem d_law_209 : decode code 209 = .ok (.aload_n 0, 1) := by decide +kernel
theorem d_law_210 : decode code 210 = .ok (.iload_n 3, 1) := by decide +kernel
theorem d_law_211 : decode code 211 = .ok (.iconst 1, 1) := by decide +kernel
theorem d_law_212 : decode code 212 = .ok (.iadd, 1) := by decide +kernel
theorem d_law_213 : decode code 213 = .ok (.iaload, 1) := by decide +kernel
theorem d_law_214 : decode code 214 = .ok (.aload_n 0, 1) := by decide +kernel
theorem d_law_215 : decode code 215 = .ok (.iload_n 3, 1) := by decide +kernel
theorem d_law_216 : decode code 216 = .ok (.iconst 2, 1) := by decide +kernel
theorem d_law_217 : decode code 217 = .ok (.iadd, 1) := by decide +kernel
theorem d_law_218 : decode code 218 = .ok (.iaload, 1) := by decide +kernel
theorem d_law_219 : decode code 219 = .ok (.invokevirtual 31, 3) := by decide +kernel
theorem d_law_222 : decode code 222 = .ok (.aload_n 2, 1) := by decide +kernel
theorem d_law_223 : decode code 223 = .ok (.aload_n 0, 1) := by decide +kernel
theorem d_law_224 : decode code 224 = .ok (.iload_n 3, 1) := by decide +kernel
theorem d_law_225 : decode code 225 = .ok (.iconst 1, 1) := by decide +kernel
theorem d_law_226 : decode code 226 = .ok (.iadd, 1) := by decide +kernel
theorem d_law_227 : decode code 227 = .ok (.iaload, 1) := by decide +kernel
theorem d_law_228 : decode code 228 = .ok (.aload_n 0, 1) := by decide +kernel
theorem d_law_229 : decode code 229 = .ok (.iload_n 3, 1) := by decide +kernel
theorem d_law_230 : decode code 230 = .ok (.iconst 2, 1) := by decide +kernel
theorem d_law_231 : decode code 231 = .ok (.iadd, 1) := by decide +kernel
theorem d_law_232 : decode code 232 = .ok (.iaload, 1) := by decide +kernel
theorem d_law_233 : decode code 233 = .ok (.invokevirtual 35, 3) := by decide +kernel
theorem d_law_236 : decode code 236 = .ok (.if_icmp .eq 81, 3) := by decide +kernel
theorem d_law_239 : decode code 239 = .ok (.iconst 0, 1) := by decide +kernel
theorem d_law_240 : decode code 240 = .ok (.ireturn, 1) := by decide +kernel
theorem d_law_241 : decode code 241 = .ok (.aload_n 1, 1) := by decide +kernel
theorem d_law_242 : decode code 242 = .ok (.aload_n 0, 1) := by decide +kernel
theorem d_law_243 : decode code 243 = .ok (.iload_n 3, 1) := by decide +kernel
theorem d_law_244 : decode code 244 = .ok (.iconst 1, 1) := by decide +kernel
theorem d_law_245 : decode code 245 = .ok (.iadd, 1) := by decide +kernel
theorem d_law_246 : decode code 246 = .ok (.iaload, 1) := by decide +kernel
theorem d_law_247 : decode code 247 = .ok (.aload_n 0, 1) := by decide +kernel
theorem d_law_248 : decode code 248 = .ok (.iload_n 3, 1) := by decide +kernel
theorem d_law_249 : decode code 249 = .ok (.iconst 2, 1) := by decide +kernel
theorem d_law_250 : decode code 250 = .ok (.iadd, 1) := by decide +kernel
theorem d_law_251 : decode code 251 = .ok (.iaload, 1) := by decide +kernel
theorem d_law_252 : decode code 252 = .ok (.invokevirtual 36, 3) := by decide +kernel
theorem d_law_255 : decode code 255 = .ok (.aload_n 2, 1) := by decide +kernel
theorem d_law_256 : decode code 256 = .ok (.aload_n 0, 1) := by decide +kernel
theorem d_law_257 : decode code 257 = .ok (.iload_n 3, 1) := by decide +kernel
theorem d_law_258 : decode code 258 = .ok (.iconst 1, 1) := by decide +kernel
theorem d_law_259 : decode code 259 = .ok (.iadd, 1) := by decide +kernel
theorem d_law_260 : decode code 260 = .ok (.iaload, 1) := by decide +kernel
theorem d_law_261 : decode code 261 = .ok (.aload_n 0, 1) := by decide +kernel
theorem d_law_262 : decode code 262 = .ok (.iload_n 3, 1) := by decide +kernel
theorem d_law_263 : decode code 263 = .ok (.iconst 2, 1) := by decide +kernel
theorem d_law_264 : decode code 264 = .ok (.iadd, 1) := by decide +kernel
theorem d_law_265 : decode code 265 = .ok (.iaload, 1) := by decide +kernel
theorem d_law_266 : decode code 266 = .ok (.invokevirtual 39, 3) := by decide +kernel
theorem d_law_269 : decode code 269 = .ok (.if_icmp .eq 48, 3) := by decide +kernel
theorem d_law_272 : decode code 272 = .ok (.iconst 0, 1) := by decide +kernel
theorem d_law_273 : decode code 273 = .ok (.ireturn, 1) := by decide +kernel
theorem d_law_274 : decode code 274 = .ok (.aload_n 1, 1) := by decide +kernel
theorem d_law_275 : decode code 275 = .ok (.aload_n 0, 1) := by decide +kernel
theorem d_law_276 : decode code 276 = .ok (.iload_n 3, 1) := by decide +kernel
theorem d_law_277 : decode code 277 = .ok (.iconst 1, 1) := by decide +kernel
theorem d_law_278 : decode code 278 = .ok (.iadd, 1) := by decide +kernel
theorem d_law_279 : decode code 279 = .ok (.iaload, 1) := by decide +kernel
theorem d_law_280 : decode code 280 = .ok (.aload_n 0, 1) := by decide +kernel
theorem d_law_281 : decode code 281 = .ok (.iload_n 3, 1) := by decide +kernel
theorem d_law_282 : decode code 282 = .ok (.iconst 2, 1) := by decide +kernel
theorem d_law_283 : decode code 283 = .ok (.iadd, 1) := by decide +kernel
theorem d_law_284 : decode code 284 = .ok (.iaload, 1) := by decide +kernel
theorem d_law_285 : decode code 285 = .ok (.aload_n 0, 1) := by decide +kernel
theorem d_law_286 : decode code 286 = .ok (.iload_n 3, 1) := by decide +kernel
theorem d_law_287 : decode code 287 = .ok (.iconst 3, 1) := by decide +kernel
theorem d_law_288 : decode code 288 = .ok (.iadd, 1) := by decide +kernel
theorem d_law_289 : decode code 289 = .ok (.iaload, 1) := by decide +kernel
theorem d_law_290 : decode code 290 = .ok (.invokevirtual 40, 3) := by decide +kernel
theorem d_law_293 : decode code 293 = .ok (.aload_n 2, 1) := by decide +kernel
theorem d_law_294 : decode code 294 = .ok (.aload_n 0, 1) := by decide +kernel
theorem d_law_295 : decode code 295 = .ok (.iload_n 3, 1) := by decide +kernel
theorem d_law_296 : decode code 296 = .ok (.iconst 1, 1) := by decide +kernel
theorem d_law_297 : decode code 297 = .ok (.iadd, 1) := by decide +kernel
theorem d_law_298 : decode code 298 = .ok (.iaload, 1) := by decide +kernel
theorem d_law_299 : decode code 299 = .ok (.aload_n 0, 1) := by decide +kernel
theorem d_law_300 : decode code 300 = .ok (.iload_n 3, 1) := by decide +kernel
theorem d_law_301 : decode code 301 = .ok (.iconst 2, 1) := by decide +kernel
theorem d_law_302 : decode code 302 = .ok (.iadd, 1) := by decide +kernel
theorem d_law_303 : decode code 303 = .ok (.iaload, 1) := by decide +kernel
theorem d_law_304 : decode code 304 = .ok (.aload_n 0, 1) := by decide +kernel
theorem d_law_305 : decode code 305 = .ok (.iload_n 3, 1) := by decide +kernel
theorem d_law_306 : decode code 306 = .ok (.iconst 3, 1) := by decide +kernel
theorem d_law_307 : decode code 307 = .ok (.iadd, 1) := by decide +kernel
theorem d_law_308 : decode code 308 = .ok (.iaload, 1) := by decide +kernel
theorem d_law_309 : decode code 309 = .ok (.invokevirtual 44, 3) := by decide +kernel
theorem d_law_312 : decode code 312 = .ok (.if_icmp .eq 5, 3) := by decide +kernel
theorem d_law_315 : decode code 315 = .ok (.iconst 0, 1) := by decide +kernel
theorem d_law_316 : decode code 316 = .ok (.ireturn, 1) := by decide +kernel
theorem d_law_317 : decode code 317 = .ok (.iinc 3 6, 3) := by decide +kernel
theorem d_law_320 : decode code 320 = .ok (.goto (-302), 3) := by decide +kernel
theorem d_law_323 : decode code 323 = .ok (.iconst 1, 1) := by decide +kernel
theorem d_law_324 : decode code 324 = .ok (.ireturn, 1) := by decide +kernel
theorem k_law_9 : Cond.methodLink R_law 9 (q_y 11) ∈ lw_tbl := q_lwt (i := 25) (by decide +kernel)
theorem k_law_12 : Cond.methodLink R_law 12 (q_y 12) ∈ lw_tbl := q_lwt (i := 1704) (by decide +kernel)
theorem k_law_13 : Cond.methodLink R_law 13 (q_y 16) ∈ lw_tbl := q_lwt (i := 559) (by decide +kernel)
theorem k_law_18 : Cond.methodLink R_law 18 (q_y 18) ∈ lw_tbl := q_lwt (i := 567) (by decide +kernel)
theorem k_law_23 : Cond.methodLink R_law 23 (q_y 21) ∈ lw_tbl := q_lwt (i := 1674) (by decide +kernel)
theorem k_law_27 : Cond.methodLink R_law 27 (q_y 22) ∈ lw_tbl := q_lwt (i := 1678) (by decide +kernel)
theorem k_law_31 : Cond.methodLink R_law 31 (q_y 23) ∈ lw_tbl := q_lwt (i := 1686) (by decide +kernel)
theorem k_law_36 : Cond.methodLink R_law 36 (q_y 24) ∈ lw_tbl := q_lwt (i := 1694) (by decide +kernel)
theorem k_law_40 : Cond.methodLink R_law 40 (q_y 25) ∈ lw_tbl := q_lwt (i := 1698) (by decide +kernel)
theorem k_law_17 : Cond.methodLink R_law 17 (q_y 40) ∈ lw_tbl := q_lwt (i := 1959) (by decide +kernel)
theorem k_law_22 : Cond.methodLink R_law 22 (q_y 41) ∈ lw_tbl := q_lwt (i := 1963) (by decide +kernel)
theorem k_law_26 : Cond.methodLink R_law 26 (q_y 56) ∈ lw_tbl := q_lwt (i := 2840) (by decide +kernel)
theorem k_law_30 : Cond.methodLink R_law 30 (q_y 57) ∈ lw_tbl := q_lwt (i := 2844) (by decide +kernel)
theorem k_law_35 : Cond.methodLink R_law 35 (q_y 59) ∈ lw_tbl := q_lwt (i := 2848) (by decide +kernel)
theorem k_law_39 : Cond.methodLink R_law 39 (q_y 60) ∈ lw_tbl := q_lwt (i := 2856) (by decide +kernel)
theorem k_law_44 : Cond.methodLink R_law 44 (q_y 61) ∈ lw_tbl := q_lwt (i := 2860) (by decide +kernel)
theorem k_law_7 : Cond.classLink R_law 7 (q_R 11) ∈ lw_tbl := q_lwt (i := 23) (by decide +kernel)
theorem k_law_10 : Cond.classLink R_law 10 (q_R 12) ∈ lw_tbl := q_lwt (i := 1702) (by decide +kernel)
def l_St (p : Program) (s : State) (m : MethodId) (meth : Method) (c : Code) (b L : Nat) (xs : Nat → Int32) (D : va_G) (ad : Nat → Nat) (cy : Nat → ClassId) : Prop := lw_At p s m meth c b L xs ∧ va_K D vwCl (q_tys cy) s ∧ q_T ad s ∧ q_SF ad s.heap.size s s.heap
abbrev l_W (D : va_G) (s : State) (ad : Nat → Nat) (cy : Nat → ClassId) (E : q_H) (H : Heap) : Prop := q_W D s.heap.size (q_c (q_rho s.heap.size ad) cy) E H
abbrev l_S (s : State) (H : Heap) (locs : List Loc) : Prop := va_S (fun q => s.heap.size ≤ q) s.heap H locs
theorem l_good (y : Nat) (h : q_mOK y) : GoodIn q_big (q_wsm y) := by
  intro w hw
  rcases List.mem_cons.mp hw with rfl | hw
  · exact ⟨q_mem h.2.1 rfl, good_of_word rfl⟩
  · exact ⟨hw, good_of_word (List.mem_filter.mp hw).2⟩
section LAW
variable {p : Program} {l : Launch} {e : Env} {s : State} {m : MethodId} {below : List Frame} {meth : Method} {c : Code} {b L : Nat} {xs : Nat → Int32} {D : va_G} {ad : Nat → Nat} {cy : Nat → ClassId} {H : Heap} {locs : List Loc} {cells slots : Nat} {Q : State → Prop} {pc : Nat} {ls : Array Slot}
theorem l_pre {y d mc ms : Nat} {as : List Value} {E : q_H} (C0 : l_St p s m meth c b L xs D ad cy) (hw : l_W D s ad cy E H) (hS : l_S s H locs) : PreS s H (va_Pc (as.map (q_v (q_rho s.heap.size ad))) (q_Pre D s.heap.size ad cy E)) (as.map (q_v (q_rho s.heap.size ad))) := by
  obtain ⟨-, hK, hT, hF⟩ := C0
  exact ⟨q_blind, fun U hU hW => ⟨rfl, by rw [hU]; exact hw, va_K.moved hW.alike hK, hT.warm hW, by rw [hU]; exact (hF.kept hS.2.1).moved hW.alike⟩⟩
theorem l_after {v : Option Value} {A : Array Value} {mc ms : Nat} {st0 rest : List Value} {E' : q_H} (hr : va_Run p l e room_1 s m #[Value.ref b] below meth c H locs cells slots mc ms (F0 m pc ls st0) rest (q_Qc D s.heap.size ad cy v E' A) (fun q => s.heap.size ≤ q)) (hS : l_S s H locs) (kk : ∀ (H1 : Heap) (locs1 : List Loc), l_W D s ad cy E' H1 → l_S s H1 locs1 → W p l e room_1 s m #[Value.ref b] below meth c H1 locs1 (cells + mc) (slots + ms) Q (F0 m (pc + 3) ls ((v.map (q_v (q_rho s.heap.size ad))).toList ++ rest))) : W p l e room_1 s m #[Value.ref b] below meth c H locs cells slots Q (F0 m pc ls st0) := q_after hr hS kk
theorem l_inv {y idx F d a mc ms : Nat} {as : List Value} {E E1 : q_H} {v : Int32} {rest st fs : List Value} (C0 : l_St p s m meth c b L xs D ad cy) (hy : y < 67) (hcall : q_callf F d y (.ref a :: as) E = some (some (.int v), E1, mc, ms)) (hlink : Cond.methodLink R_law idx (q_y y) ∈ lw_tbl) (hdg : decode code pc = .ok (.invokevirtual idx, 3)) (hstk : st = (as.map (q_v (q_rho s.heap.size ad))).reverse ++ .ref (q_rho s.heap.size ad a) :: rest) (hna : as.length = q_na y) (hst : q_stat y = false) (hi : q_ini y = false) (ho : q_own y < 13) (hob : q_obj E a (q_own y) = some fs) (hd : d + 4 ≤ 2048) (hR : 8 + (q_maxL y + 11) + (40 * d + 100) ≤ 84000) (h8 : (rest.map fun v => v.category).sum ≤ 8) (hc : cells + mc ≤ 396798) (hs : slots + ms ≤ 7911856) (hw : l_W D s ad cy E H) (hS : l_S s H locs) (hl : ls.size = 4) (kk : ∀ (H1 : Heap) (locs1 : List Loc), l_W D s ad cy E1 H1 → l_S s H1 locs1 → W p l e room_1 s m #[Value.ref b] below meth c H1 locs1 (cells + mc) (slots + ms) Q (F0 m (pc + 3) ls (.int v :: rest))) : W p l e room_1 s m #[Value.ref b] below meth c H locs cells slots Q (F0 m pc ls st) := by
  have hpre := l_pre (y := y) (d := d) (mc := mc) (ms := ms) (as := .ref a :: as) C0 hw hS
  obtain ⟨⟨hx, hb, hr, hml, hown, hts, hX, hbl, hlocks, hgv⟩, hK, hT, hF⟩ := C0
  have htb : ∀ w ∈ q_big, w.before #[Value.ref b] s = true := fun w h => hts w (List.mem_filter.mp h).1
  have hm := q_m_ok y hy
  obtain ⟨m1, m2, m3, m4, m5, m6, m7, m8, m9, m10⟩ := id hm
  have hini : (Cond.initialized (q_y y).cls).before #[Value.ref b] s = true := htb _ (q_mem m4 rfl)
  have hM := q_call_ok l D s.heap.size ad cy F d y (.ref a :: as) E _ hm hcall
  have hG := l_good y hm
  have hrecv : ∃ cellB : Cell, H[q_rho s.heap.size ad a]? = some cellB ∧ cellB.vm.isStatics = false ∧ s.vm.findClass (q_y y).cls = some cellB.cls := by
    obtain ⟨g1, g2⟩ := q_obj_s hob
    have z := Value.ref.inj (q_ref0 (b0 := s.heap.size) (ad := ad) g1)
    rw [m3, z]
    exact va_recv hK hw.2 (q_vw _ ho) (q_ws_at (b0 := s.heap.size) (G := q_c (q_rho s.heap.size ad) cy) g2)
  subst hstk
  exact l_after (va_runV (C := (q_y y).cls) (As := as.map (q_v (q_rho s.heap.size ad))) (rest := rest) ⟨hx, hb, hml, hown, htb⟩ hM ⟨callB_of (q_na y) htb hG rfl rfl rfl hini (htb _ (q_mem hlink rfl)) m9 ⟨by show d + 3 + 1 ≤ 2048; omega, by show _ ≤ 84000; exact hR⟩, htb _ (q_mem (m6 hst) rfl), htb _ (q_mem (m7 hst hi) rfl)⟩ ⟨hpre.1, hrecv, hpre.2⟩ rfl (by rw [List.length_map]; exact hna) hl rfl (by show 2 * 0 + _ ≤ 8; omega) hdg ⟨hc, hs⟩) hS kk
theorem l_ini {y idx F d a mc ms : Nat} {E E1 : q_H} {rest st : List Value} (C0 : l_St p s m meth c b L xs D ad cy) (hy : y < 67) (hcall : q_callf F d y [.ref a] E = some (none, E1, mc, ms)) (hlink : Cond.methodLink R_law idx (q_y y) ∈ lw_tbl) (hdg : decode code pc = .ok (.invokespecial idx, 3)) (hstk : st = .ref (q_rho s.heap.size ad a) :: rest) (hna : q_na y = 0) (hst : q_stat y = false) (hi : q_ini y = true) (hrn : q_ret y = none) (hd : d + 4 ≤ 2048) (hR : 8 + (q_maxL y + 11) + (40 * d + 100) ≤ 84000) (h8 : (rest.map fun v => v.category).sum ≤ 8) (hc : cells + mc ≤ 396798) (hs : slots + ms ≤ 7911856) (hw : l_W D s ad cy E H) (hS : l_S s H locs) (hl : ls.size = 4) (kk : ∀ (H1 : Heap) (locs1 : List Loc), l_W D s ad cy E1 H1 → l_S s H1 locs1 → W p l e room_1 s m #[Value.ref b] below meth c H1 locs1 (cells + mc) (slots + ms) Q (F0 m (pc + 3) ls rest)) : W p l e room_1 s m #[Value.ref b] below meth c H locs cells slots Q (F0 m pc ls st) := by
  have hpre := l_pre (y := y) (d := d) (mc := mc) (ms := ms) (as := [.ref a]) C0 hw hS
  obtain ⟨⟨hx, hb, hr, hml, hown, hts, hX, hbl, hlocks, hgv⟩, hK, hT, hF⟩ := C0
  have htb : ∀ w ∈ q_big, w.before #[Value.ref b] s = true := fun w h => hts w (List.mem_filter.mp h).1
  have hm := q_m_ok y hy
  obtain ⟨m1, m2, m3, m4, m5, m6, m7, m8, m9, m10⟩ := id hm
  have hini : (Cond.initialized (q_y y).cls).before #[Value.ref b] s = true := htb _ (q_mem m4 rfl)
  have hM := q_call_ok l D s.heap.size ad cy F d y [.ref a] E _ hm hcall
  have hG := l_good y hm
  have hwm : q_wsm y = Cond.code (q_y y) (q_code y) (q_maxL y) none :: q_big := by unfold q_wsm; rw [hrn]
  subst hstk
  exact l_after (va_runI (As := []) (rest := rest) ⟨hx, hb, hml, hown, htb⟩ hM ⟨callB_of (q_na y) htb hG hwm rfl rfl hini (htb _ (q_mem hlink rfl)) m9 ⟨by show d + 3 + 1 ≤ 2048; omega, by show _ ≤ 84000; exact hR⟩, m8 hi, htb _ (q_mem (m6 hst) rfl)⟩ hpre rfl (by rw [hna]; rfl) hl rfl (by show 2 * 0 + _ ≤ 8; omega) hdg ⟨hc, hs⟩) hS kk
theorem l_new {idx ci : Nat} {E : q_H} {r : List Value} (C0 : l_St p s m meth c b L xs D ad cy) (h1 : ci < 13) (h3 : Cond.classLink R_law idx (q_R ci) ∈ lw_tbl) (hc : cells + 1 ≤ 396798) (hs : slots + q_N ci ≤ 7911856) (hdg : decode code pc = .ok (.new idx, 3)) (hw : l_W D s ad cy E H) (hS : l_S s H locs) (kk : ∀ (H1 : Heap) (locs1 : List Loc), l_W D s ad cy (E ++ [.inr (ci, (List.range (q_N ci)).map (fun j => defaultValue (q_Ty ci j)))]) H1 → l_S s H1 locs1 → W p l e room_1 s m #[Value.ref b] below meth c H1 locs1 (cells + 1) (slots + q_N ci) Q (F0 m (pc + 3) ls (.ref (q_rho s.heap.size ad (2 * E.length)) :: r))) : W p l e room_1 s m #[Value.ref b] below meth c H locs cells slots Q (F0 m pc ls r) := by
  obtain ⟨⟨hx, hb, hr, hml, hown, hts, hX, hbl, hlocks, hgv⟩, hK, hT, hF⟩ := C0
  have htb : ∀ w ∈ q_big, w.before #[Value.ref b] s = true := fun w h => hts w (List.mem_filter.mp h).1
  rw [q_rho0] at kk
  have hcl := q_vw _ h1
  have hKn := hK.1 ci _ hcl
  refine W.newcK hx hb hown (htb _ (q_mem h3 rfl)) (htb _ (q_mem (q_inst _ h1) rfl)) (htb _ (q_mem (q_init _ h1) rfl)) rfl hdg hc hs hKn.2.1 hw.1 fun H1 kC hkC f1 f2 f3 => ?_
  have hz : H1.size = H.size + 1 := by rw [f2, hw.1]
  have ho : ∀ q : Nat, q < H.size → H1[q]? = H[q]? := fun q hq => f3 q (by rw [← hw.1]; exact hq)
  refine kk H1 locs (q_W_app hw hz ho ?_) (q_S_app hS hz ho)
  refine ⟨_, hcl, (u_born (q_Ty ci) htb (q_lay_big h1) hKn hkC f1 (q_ty_ok _ h1)).to fun j hj => ?_⟩
  show defaultValue (q_Ty ci j) = (List.map _ _).getD j .null
  rw [List.getD_eq_getElem?_getD, List.getElem?_map, List.getElem?_map, List.getElem?_range hj]
  show _ = q_v _ (defaultValue _)
  cases q_Ty ci j <;> rfl
/-- the end of the law -/
theorem l_end (C0 : l_St p s m meth c b L xs D ad cy) (hS : l_S s H locs) (hc : cells ≤ 396798) (hs : slots ≤ 7911856) : W p l e room_1 s m #[Value.ref b] below meth c H locs cells slots (lw_Z below #[Value.ref b] s) (F0 m 323 ls []) := by
  obtain ⟨⟨hx, hb, hr, hml, hown, hts, hX, hbl, hlocks, hgv⟩, hK, hT, hF⟩ := C0
  refine lv_iconst (v := 1) hx hb d_law_323 (by decide) ?_
  refine va_forget (fun q hq => hS.2.2 q hq) ?_
  refine W.widen (k := 396798) (n := 7911856) hc hs ?_
  exact lw_ret hx hb hr hlocks d_law_324
/-- behind a call, at a script of six ints -/
theorem l_tail (C0 : l_St p s m meth c b 6 xs D ad cy) (hS : l_S s H locs) (hc : cells ≤ 396798) (hs : slots ≤ 7911856) (hl : lv_has ls 4 [(3, .int 0), (2, .ref (q_rho s.heap.size ad 448)), (1, .ref (q_rho s.heap.size ad 0)), (0, .ref b)]) : W p l e room_1 s m #[Value.ref b] below meth c H locs cells slots (lw_Z below #[Value.ref b] s) (F0 m 317 ls []) := by
  have C1 := C0
  obtain ⟨⟨hx, hb, hr, hml, hown, hts, hX, hbl, hlocks, hgv⟩, hK, hT, hF⟩ := C0
  have hbA : ¬ (fun q : Nat => s.heap.size ≤ q) b := Nat.not_le.mpr hbl
  refine lv_iinc (v := 6) (lv' := [(3, .int 6), (2, .ref (q_rho s.heap.size ad 448)), (1, .ref (q_rho s.heap.size ad 0)), (0, .ref b)]) hx hb d_law_317 hl (k := 0) rfl (by decide) (by decide) rfl (fun ls hl => ?_)
  refine lv_goto (tgt := 18) hx hb d_law_320 (by decide) ?_
  refine lv_iload_n hx hb d_law_18 rfl (lv_at hl 0 rfl) ?_
  refine lv_aload_n hx hb d_law_19 rfl (lv_at hl 3 rfl) ?_
  refine va_slen hx hb hX hbl hbA hS d_law_20 ?_
  refine lv_bipush (v := 6) hx hb d_law_21 (by decide) ?_
  refine lv_isub hx hb d_law_23 ?_
  refine lv_icmp_gt (tgt := 323) hx hb d_law_24 (by decide) (fun _ => ?_) (fun g => absurd (by decide) g)
  exact l_end C1 hS hc hs
theorem l_case0 (C1 : l_St p s m meth c b 6 xs D ad cy) (hw : l_W D s ad cy p_E H) (hS : l_S s H locs) (hc : cells ≤ 396798) (hs : slots ≤ 7911856) (hl : lv_has ls 4 [(3, .int 0), (2, .ref (q_rho s.heap.size ad 448)), (1, .ref (q_rho s.heap.size ad 0)), (0, .ref b)]) : W p l e room_1 s m #[Value.ref b] below meth c H locs cells slots (lw_Z below #[Value.ref b] s) (F0 m 76 ls []) := by
  have C0 := C1
  obtain ⟨⟨hx, hb, hr, hml, hown, hts, hX, hbl, hlocks, hgv⟩, hK, hT, hF⟩ := C0
  have hbA : ¬ (fun q : Nat => s.heap.size ≤ q) b := Nat.not_le.mpr hbl
  obtain ⟨v, E1, E2, h1, h2, fs1, fs2, hob1, hob2⟩ := two_feed (xs (0 + 1 : Int32).toNatClampNeg) (xs (0 + 2 : Int32).toNatClampNeg) (xs (0 + 3 : Int32).toNatClampNeg) (xs (0 + 4 : Int32).toNatClampNeg) (xs (0 + 5 : Int32).toNatClampNeg)
  refine lv_aload_n hx hb d_law_76 rfl (lv_at hl 2 rfl) ?_
  refine lv_aload_n hx hb d_law_77 rfl (lv_at hl 3 rfl) ?_
  refine lv_iload_n hx hb d_law_78 rfl (lv_at hl 0 rfl) ?_
  refine lv_iconst (v := 1) hx hb d_law_79 (by decide) ?_
  refine lv_iadd hx hb d_law_80 ?_
  refine va_sld hx hb hX hbl hbA hS (q_in_s (by decide +kernel)) d_law_81 ?_
  refine lv_aload_n hx hb d_law_82 rfl (lv_at hl 3 rfl) ?_
  refine lv_iload_n hx hb d_law_83 rfl (lv_at hl 0 rfl) ?_
  refine lv_iconst (v := 2) hx hb d_law_84 (by decide) ?_
  refine lv_iadd hx hb d_law_85 ?_
  refine va_sld hx hb hX hbl hbA hS (q_in_s (by decide +kernel)) d_law_86 ?_
  refine lv_aload_n hx hb d_law_87 rfl (lv_at hl 3 rfl) ?_
  refine lv_iload_n hx hb d_law_88 rfl (lv_at hl 0 rfl) ?_
  refine lv_iconst (v := 3) hx hb d_law_89 (by decide) ?_
  refine lv_iadd hx hb d_law_90 ?_
  refine va_sld hx hb hX hbl hbA hS (q_in_s (by decide +kernel)) d_law_91 ?_
  refine lv_aload_n hx hb d_law_92 rfl (lv_at hl 3 rfl) ?_
  refine lv_iload_n hx hb d_law_93 rfl (lv_at hl 0 rfl) ?_
  refine lv_iconst (v := 4) hx hb d_law_94 (by decide) ?_
  refine lv_iadd hx hb d_law_95 ?_
  refine va_sld hx hb hX hbl hbA hS (q_in_s (by decide +kernel)) d_law_96 ?_
  refine lv_aload_n hx hb d_law_97 rfl (lv_at hl 3 rfl) ?_
  refine lv_iload_n hx hb d_law_98 rfl (lv_at hl 0 rfl) ?_
  refine lv_iconst (v := 5) hx hb d_law_99 (by decide) ?_
  refine lv_iadd hx hb d_law_100 ?_
  refine va_sld hx hb hX hbl hbA hS (q_in_s (by decide +kernel)) d_law_101 ?_
  refine l_inv (y := 16) (idx := 13) (a := 0) (as := [.int (xs (0 + 1 : Int32).toNatClampNeg), .int (xs (0 + 2 : Int32).toNatClampNeg), .int (xs (0 + 3 : Int32).toNatClampNeg), .int (xs (0 + 4 : Int32).toNatClampNeg), .int (xs (0 + 5 : Int32).toNatClampNeg)]) (rest := []) C1 (by decide) h1 k_law_13 d_law_102 rfl rfl rfl rfl (by decide) hob1 (by decide) (by decide +kernel) (by decide) hc hs hw hS hl.1 (fun H locs hw hS => ?_)
  refine lv_aload_n hx hb d_law_105 rfl (lv_at hl 1 rfl) ?_
  refine lv_aload_n hx hb d_law_106 rfl (lv_at hl 3 rfl) ?_
  refine lv_iload_n hx hb d_law_107 rfl (lv_at hl 0 rfl) ?_
  refine lv_iconst (v := 1) hx hb d_law_108 (by decide) ?_
  refine lv_iadd hx hb d_law_109 ?_
  refine va_sld hx hb hX hbl hbA hS (q_in_s (by decide +kernel)) d_law_110 ?_
  refine lv_aload_n hx hb d_law_111 rfl (lv_at hl 3 rfl) ?_
  refine lv_iload_n hx hb d_law_112 rfl (lv_at hl 0 rfl) ?_
  refine lv_iconst (v := 2) hx hb d_law_113 (by decide) ?_
  refine lv_iadd hx hb d_law_114 ?_
  refine va_sld hx hb hX hbl hbA hS (q_in_s (by decide +kernel)) d_law_115 ?_
  refine lv_aload_n hx hb d_law_116 rfl (lv_at hl 3 rfl) ?_
  refine lv_iload_n hx hb d_law_117 rfl (lv_at hl 0 rfl) ?_
  refine lv_iconst (v := 3) hx hb d_law_118 (by decide) ?_
  refine lv_iadd hx hb d_law_119 ?_
  refine va_sld hx hb hX hbl hbA hS (q_in_s (by decide +kernel)) d_law_120 ?_
  refine lv_aload_n hx hb d_law_121 rfl (lv_at hl 3 rfl) ?_
  refine lv_iload_n hx hb d_law_122 rfl (lv_at hl 0 rfl) ?_
  refine lv_iconst (v := 4) hx hb d_law_123 (by decide) ?_
  refine lv_iadd hx hb d_law_124 ?_
  refine va_sld hx hb hX hbl hbA hS (q_in_s (by decide +kernel)) d_law_125 ?_
  refine lv_aload_n hx hb d_law_126 rfl (lv_at hl 3 rfl) ?_
  refine lv_iload_n hx hb d_law_127 rfl (lv_at hl 0 rfl) ?_
  refine lv_iconst (v := 5) hx hb d_law_128 (by decide) ?_
  refine lv_iadd hx hb d_law_129 ?_
  refine va_sld hx hb hX hbl hbA hS (q_in_s (by decide +kernel)) d_law_130 ?_
  refine l_inv (y := 40) (idx := 17) (a := 448) (as := [.int (xs (0 + 1 : Int32).toNatClampNeg), .int (xs (0 + 2 : Int32).toNatClampNeg), .int (xs (0 + 3 : Int32).toNatClampNeg), .int (xs (0 + 4 : Int32).toNatClampNeg), .int (xs (0 + 5 : Int32).toNatClampNeg)]) (rest := [.int v]) C1 (by decide) h2 k_law_17 d_law_131 rfl rfl rfl rfl (by decide) hob2 (by decide) (by decide +kernel) (Nat.le_of_ble_eq_true rfl) hc hs hw hS hl.1 (fun H locs hw hS => ?_)
  refine lv_icmp_eq (tgt := 317) hx hb d_law_134 (by decide) (fun _ => ?_) (fun g => absurd rfl g)
  exact l_tail C1 hS hc hs hl
theorem l_case1 (C1 : l_St p s m meth c b 6 xs D ad cy) (hw : l_W D s ad cy p_E H) (hS : l_S s H locs) (hc : cells ≤ 396798) (hs : slots ≤ 7911856) (hl : lv_has ls 4 [(3, .int 0), (2, .ref (q_rho s.heap.size ad 448)), (1, .ref (q_rho s.heap.size ad 0)), (0, .ref b)]) : W p l e room_1 s m #[Value.ref b] below meth c H locs cells slots (lw_Z below #[Value.ref b] s) (F0 m 139 ls []) := by
  have C0 := C1
  obtain ⟨⟨hx, hb, hr, hml, hown, hts, hX, hbl, hlocks, hgv⟩, hK, hT, hF⟩ := C0
  have hbA : ¬ (fun q : Nat => s.heap.size ≤ q) b := Nat.not_le.mpr hbl
  obtain ⟨v, E1, E2, h1, h2, fs1, fs2, hob1, hob2⟩ := two_ask (xs (0 + 1 : Int32).toNatClampNeg)
  refine lv_aload_n hx hb d_law_139 rfl (lv_at hl 2 rfl) ?_
  refine lv_aload_n hx hb d_law_140 rfl (lv_at hl 3 rfl) ?_
  refine lv_iload_n hx hb d_law_141 rfl (lv_at hl 0 rfl) ?_
  refine lv_iconst (v := 1) hx hb d_law_142 (by decide) ?_
  refine lv_iadd hx hb d_law_143 ?_
  refine va_sld hx hb hX hbl hbA hS (q_in_s (by decide +kernel)) d_law_144 ?_
  refine l_inv (y := 18) (idx := 18) (a := 0) (as := [.int (xs (0 + 1 : Int32).toNatClampNeg)]) (rest := []) C1 (by decide) h1 k_law_18 d_law_145 rfl rfl rfl rfl (by decide) hob1 (by decide) (by decide +kernel) (by decide) hc hs hw hS hl.1 (fun H locs hw hS => ?_)
  refine lv_aload_n hx hb d_law_148 rfl (lv_at hl 1 rfl) ?_
  refine lv_aload_n hx hb d_law_149 rfl (lv_at hl 3 rfl) ?_
  refine lv_iload_n hx hb d_law_150 rfl (lv_at hl 0 rfl) ?_
  refine lv_iconst (v := 1) hx hb d_law_151 (by decide) ?_
  refine lv_iadd hx hb d_law_152 ?_
  refine va_sld hx hb hX hbl hbA hS (q_in_s (by decide +kernel)) d_law_153 ?_
  refine l_inv (y := 41) (idx := 22) (a := 448) (as := [.int (xs (0 + 1 : Int32).toNatClampNeg)]) (rest := [.int v]) C1 (by decide) h2 k_law_22 d_law_154 rfl rfl rfl rfl (by decide) hob2 (by decide) (by decide +kernel) (Nat.le_of_ble_eq_true rfl) hc hs hw hS hl.1 (fun H locs hw hS => ?_)
  refine lv_icmp_eq (tgt := 317) hx hb d_law_157 (by decide) (fun _ => ?_) (fun g => absurd rfl g)
  exact l_tail C1 hS hc hs hl
theorem l_case2 (C1 : l_St p s m meth c b 6 xs D ad cy) (hw : l_W D s ad cy p_E H) (hS : l_S s H locs) (hc : cells ≤ 396798) (hs : slots ≤ 7911856) (hl : lv_has ls 4 [(3, .int 0), (2, .ref (q_rho s.heap.size ad 448)), (1, .ref (q_rho s.heap.size ad 0)), (0, .ref b)]) : W p l e room_1 s m #[Value.ref b] below meth c H locs cells slots (lw_Z below #[Value.ref b] s) (F0 m 162 ls []) := by
  have C0 := C1
  obtain ⟨⟨hx, hb, hr, hml, hown, hts, hX, hbl, hlocks, hgv⟩, hK, hT, hF⟩ := C0
  have hbA : ¬ (fun q : Nat => s.heap.size ≤ q) b := Nat.not_le.mpr hbl
  obtain ⟨v, E1, E2, h1, h2, fs1, fs2, hob1, hob2⟩ := two_answer (xs (0 + 1 : Int32).toNatClampNeg)
  refine lv_aload_n hx hb d_law_162 rfl (lv_at hl 2 rfl) ?_
  refine lv_aload_n hx hb d_law_163 rfl (lv_at hl 3 rfl) ?_
  refine lv_iload_n hx hb d_law_164 rfl (lv_at hl 0 rfl) ?_
  refine lv_iconst (v := 1) hx hb d_law_165 (by decide) ?_
  refine lv_iadd hx hb d_law_166 ?_
  refine va_sld hx hb hX hbl hbA hS (q_in_s (by decide +kernel)) d_law_167 ?_
  refine l_inv (y := 21) (idx := 23) (a := 0) (as := [.int (xs (0 + 1 : Int32).toNatClampNeg)]) (rest := []) C1 (by decide) h1 k_law_23 d_law_168 rfl rfl rfl rfl (by decide) hob1 (by decide) (by decide +kernel) (by decide) hc hs hw hS hl.1 (fun H locs hw hS => ?_)
  refine lv_aload_n hx hb d_law_171 rfl (lv_at hl 1 rfl) ?_
  refine lv_aload_n hx hb d_law_172 rfl (lv_at hl 3 rfl) ?_
  refine lv_iload_n hx hb d_law_173 rfl (lv_at hl 0 rfl) ?_
  refine lv_iconst (v := 1) hx hb d_law_174 (by decide) ?_
  refine lv_iadd hx hb d_law_175 ?_
  refine va_sld hx hb hX hbl hbA hS (q_in_s (by decide +kernel)) d_law_176 ?_
  refine l_inv (y := 56) (idx := 26) (a := 448) (as := [.int (xs (0 + 1 : Int32).toNatClampNeg)]) (rest := [.int v]) C1 (by decide) h2 k_law_26 d_law_177 rfl rfl rfl rfl (by decide) hob2 (by decide) (by decide +kernel) (Nat.le_of_ble_eq_true rfl) hc hs hw hS hl.1 (fun H locs hw hS => ?_)
  refine lv_icmp_eq (tgt := 317) hx hb d_law_180 (by decide) (fun _ => ?_) (fun g => absurd rfl g)
  exact l_tail C1 hS hc hs hl
theorem l_case3 (C1 : l_St p s m meth c b 6 xs D ad cy) (hw : l_W D s ad cy p_E H) (hS : l_S s H locs) (hc : cells ≤ 396798) (hs : slots ≤ 7911856) (hl : lv_has ls 4 [(3, .int 0), (2, .ref (q_rho s.heap.size ad 448)), (1, .ref (q_rho s.heap.size ad 0)), (0, .ref b)]) : W p l e room_1 s m #[Value.ref b] below meth c H locs cells slots (lw_Z below #[Value.ref b] s) (F0 m 185 ls []) := by
  have C0 := C1
  obtain ⟨⟨hx, hb, hr, hml, hown, hts, hX, hbl, hlocks, hgv⟩, hK, hT, hF⟩ := C0
  have hbA : ¬ (fun q : Nat => s.heap.size ≤ q) b := Nat.not_le.mpr hbl
  obtain ⟨v, E1, E2, h1, h2, fs1, fs2, hob1, hob2⟩ := two_state (xs (0 + 1 : Int32).toNatClampNeg)
  refine lv_aload_n hx hb d_law_185 rfl (lv_at hl 2 rfl) ?_
  refine lv_aload_n hx hb d_law_186 rfl (lv_at hl 3 rfl) ?_
  refine lv_iload_n hx hb d_law_187 rfl (lv_at hl 0 rfl) ?_
  refine lv_iconst (v := 1) hx hb d_law_188 (by decide) ?_
  refine lv_iadd hx hb d_law_189 ?_
  refine va_sld hx hb hX hbl hbA hS (q_in_s (by decide +kernel)) d_law_190 ?_
  refine l_inv (y := 22) (idx := 27) (a := 0) (as := [.int (xs (0 + 1 : Int32).toNatClampNeg)]) (rest := []) C1 (by decide) h1 k_law_27 d_law_191 rfl rfl rfl rfl (by decide) hob1 (by decide) (by decide +kernel) (by decide) hc hs hw hS hl.1 (fun H locs hw hS => ?_)
  refine lv_aload_n hx hb d_law_194 rfl (lv_at hl 1 rfl) ?_
  refine lv_aload_n hx hb d_law_195 rfl (lv_at hl 3 rfl) ?_
  refine lv_iload_n hx hb d_law_196 rfl (lv_at hl 0 rfl) ?_
  refine lv_iconst (v := 1) hx hb d_law_197 (by decide) ?_
  refine lv_iadd hx hb d_law_198 ?_
  refine va_sld hx hb hX hbl hbA hS (q_in_s (by decide +kernel)) d_law_199 ?_
  refine l_inv (y := 57) (idx := 30) (a := 448) (as := [.int (xs (0 + 1 : Int32).toNatClampNeg)]) (rest := [.int v]) C1 (by decide) h2 k_law_30 d_law_200 rfl rfl rfl rfl (by decide) hob2 (by decide) (by decide +kernel) (Nat.le_of_ble_eq_true rfl) hc hs hw hS hl.1 (fun H locs hw hS => ?_)
  refine lv_icmp_eq (tgt := 317) hx hb d_law_203 (by decide) (fun _ => ?_) (fun g => absurd rfl g)
  exact l_tail C1 hS hc hs hl
theorem l_case4 (C1 : l_St p s m meth c b 6 xs D ad cy) (hw : l_W D s ad cy p_E H) (hS : l_S s H locs) (hc : cells ≤ 396798) (hs : slots ≤ 7911856) (hl : lv_has ls 4 [(3, .int 0), (2, .ref (q_rho s.heap.size ad 448)), (1, .ref (q_rho s.heap.size ad 0)), (0, .ref b)]) : W p l e room_1 s m #[Value.ref b] below meth c H locs cells slots (lw_Z below #[Value.ref b] s) (F0 m 208 ls []) := by
  have C0 := C1
  obtain ⟨⟨hx, hb, hr, hml, hown, hts, hX, hbl, hlocks, hgv⟩, hK, hT, hF⟩ := C0
  have hbA : ¬ (fun q : Nat => s.heap.size ≤ q) b := Nat.not_le.mpr hbl
  obtain ⟨v, E1, E2, h1, h2, fs1, fs2, hob1, hob2⟩ := two_number (xs (0 + 1 : Int32).toNatClampNeg) (xs (0 + 2 : Int32).toNatClampNeg)
  refine lv_aload_n hx hb d_law_208 rfl (lv_at hl 2 rfl) ?_
  refine lv_aload_n hx hb d_law_209 rfl (lv_at hl 3 rfl) ?_
  refine lv_iload_n hx hb d_law_210 rfl (lv_at hl 0 rfl) ?_
  refine lv_iconst (v := 1) hx hb d_law_211 (by decide) ?_
  refine lv_iadd hx hb d_law_212 ?_
  refine va_sld hx hb hX hbl hbA hS (q_in_s (by decide +kernel)) d_law_213 ?_
  refine lv_aload_n hx hb d_law_214 rfl (lv_at hl 3 rfl) ?_
  refine lv_iload_n hx hb d_law_215 rfl (lv_at hl 0 rfl) ?_
  refine lv_iconst (v := 2) hx hb d_law_216 (by decide) ?_
  refine lv_iadd hx hb d_law_217 ?_
  refine va_sld hx hb hX hbl hbA hS (q_in_s (by decide +kernel)) d_law_218 ?_
  refine l_inv (y := 23) (idx := 31) (a := 0) (as := [.int (xs (0 + 1 : Int32).toNatClampNeg), .int (xs (0 + 2 : Int32).toNatClampNeg)]) (rest := []) C1 (by decide) h1 k_law_31 d_law_219 rfl rfl rfl rfl (by decide) hob1 (by decide) (by decide +kernel) (by decide) hc hs hw hS hl.1 (fun H locs hw hS => ?_)
  refine lv_aload_n hx hb d_law_222 rfl (lv_at hl 1 rfl) ?_
  refine lv_aload_n hx hb d_law_223 rfl (lv_at hl 3 rfl) ?_
  refine lv_iload_n hx hb d_law_224 rfl (lv_at hl 0 rfl) ?_
  refine lv_iconst (v := 1) hx hb d_law_225 (by decide) ?_
  refine lv_iadd hx hb d_law_226 ?_
  refine va_sld hx hb hX hbl hbA hS (q_in_s (by decide +kernel)) d_law_227 ?_
  refine lv_aload_n hx hb d_law_228 rfl (lv_at hl 3 rfl) ?_
  refine lv_iload_n hx hb d_law_229 rfl (lv_at hl 0 rfl) ?_
  refine lv_iconst (v := 2) hx hb d_law_230 (by decide) ?_
  refine lv_iadd hx hb d_law_231 ?_
  refine va_sld hx hb hX hbl hbA hS (q_in_s (by decide +kernel)) d_law_232 ?_
  refine l_inv (y := 59) (idx := 35) (a := 448) (as := [.int (xs (0 + 1 : Int32).toNatClampNeg), .int (xs (0 + 2 : Int32).toNatClampNeg)]) (rest := [.int v]) C1 (by decide) h2 k_law_35 d_law_233 rfl rfl rfl rfl (by decide) hob2 (by decide) (by decide +kernel) (Nat.le_of_ble_eq_true rfl) hc hs hw hS hl.1 (fun H locs hw hS => ?_)
  refine lv_icmp_eq (tgt := 317) hx hb d_law_236 (by decide) (fun _ => ?_) (fun g => absurd rfl g)
  exact l_tail C1 hS hc hs hl
theorem l_case5 (C1 : l_St p s m meth c b 6 xs D ad cy) (hw : l_W D s ad cy p_E H) (hS : l_S s H locs) (hc : cells ≤ 396798) (hs : slots ≤ 7911856) (hl : lv_has ls 4 [(3, .int 0), (2, .ref (q_rho s.heap.size ad 448)), (1, .ref (q_rho s.heap.size ad 0)), (0, .ref b)]) : W p l e room_1 s m #[Value.ref b] below meth c H locs cells slots (lw_Z below #[Value.ref b] s) (F0 m 241 ls []) := by
  have C0 := C1
  obtain ⟨⟨hx, hb, hr, hml, hown, hts, hX, hbl, hlocks, hgv⟩, hK, hT, hF⟩ := C0
  have hbA : ¬ (fun q : Nat => s.heap.size ≤ q) b := Nat.not_le.mpr hbl
  obtain ⟨v, E1, E2, h1, h2, fs1, fs2, hob1, hob2⟩ := two_size (xs (0 + 1 : Int32).toNatClampNeg) (xs (0 + 2 : Int32).toNatClampNeg)
  refine lv_aload_n hx hb d_law_241 rfl (lv_at hl 2 rfl) ?_
  refine lv_aload_n hx hb d_law_242 rfl (lv_at hl 3 rfl) ?_
  refine lv_iload_n hx hb d_law_243 rfl (lv_at hl 0 rfl) ?_
  refine lv_iconst (v := 1) hx hb d_law_244 (by decide) ?_
  refine lv_iadd hx hb d_law_245 ?_
  refine va_sld hx hb hX hbl hbA hS (q_in_s (by decide +kernel)) d_law_246 ?_
  refine lv_aload_n hx hb d_law_247 rfl (lv_at hl 3 rfl) ?_
  refine lv_iload_n hx hb d_law_248 rfl (lv_at hl 0 rfl) ?_
  refine lv_iconst (v := 2) hx hb d_law_249 (by decide) ?_
  refine lv_iadd hx hb d_law_250 ?_
  refine va_sld hx hb hX hbl hbA hS (q_in_s (by decide +kernel)) d_law_251 ?_
  refine l_inv (y := 24) (idx := 36) (a := 0) (as := [.int (xs (0 + 1 : Int32).toNatClampNeg), .int (xs (0 + 2 : Int32).toNatClampNeg)]) (rest := []) C1 (by decide) h1 k_law_36 d_law_252 rfl rfl rfl rfl (by decide) hob1 (by decide) (by decide +kernel) (by decide) hc hs hw hS hl.1 (fun H locs hw hS => ?_)
  refine lv_aload_n hx hb d_law_255 rfl (lv_at hl 1 rfl) ?_
  refine lv_aload_n hx hb d_law_256 rfl (lv_at hl 3 rfl) ?_
  refine lv_iload_n hx hb d_law_257 rfl (lv_at hl 0 rfl) ?_
  refine lv_iconst (v := 1) hx hb d_law_258 (by decide) ?_
  refine lv_iadd hx hb d_law_259 ?_
  refine va_sld hx hb hX hbl hbA hS (q_in_s (by decide +kernel)) d_law_260 ?_
  refine lv_aload_n hx hb d_law_261 rfl (lv_at hl 3 rfl) ?_
  refine lv_iload_n hx hb d_law_262 rfl (lv_at hl 0 rfl) ?_
  refine lv_iconst (v := 2) hx hb d_law_263 (by decide) ?_
  refine lv_iadd hx hb d_law_264 ?_
  refine va_sld hx hb hX hbl hbA hS (q_in_s (by decide +kernel)) d_law_265 ?_
  refine l_inv (y := 60) (idx := 39) (a := 448) (as := [.int (xs (0 + 1 : Int32).toNatClampNeg), .int (xs (0 + 2 : Int32).toNatClampNeg)]) (rest := [.int v]) C1 (by decide) h2 k_law_39 d_law_266 rfl rfl rfl rfl (by decide) hob2 (by decide) (by decide +kernel) (Nat.le_of_ble_eq_true rfl) hc hs hw hS hl.1 (fun H locs hw hS => ?_)
  refine lv_icmp_eq (tgt := 317) hx hb d_law_269 (by decide) (fun _ => ?_) (fun g => absurd rfl g)
  exact l_tail C1 hS hc hs hl
theorem l_case6 (C1 : l_St p s m meth c b 6 xs D ad cy) (hw : l_W D s ad cy p_E H) (hS : l_S s H locs) (hc : cells ≤ 396798) (hs : slots ≤ 7911856) (hl : lv_has ls 4 [(3, .int 0), (2, .ref (q_rho s.heap.size ad 448)), (1, .ref (q_rho s.heap.size ad 0)), (0, .ref b)]) : W p l e room_1 s m #[Value.ref b] below meth c H locs cells slots (lw_Z below #[Value.ref b] s) (F0 m 274 ls []) := by
  have C0 := C1
  obtain ⟨⟨hx, hb, hr, hml, hown, hts, hX, hbl, hlocks, hgv⟩, hK, hT, hF⟩ := C0
  have hbA : ¬ (fun q : Nat => s.heap.size ≤ q) b := Nat.not_le.mpr hbl
  obtain ⟨v, E1, E2, h1, h2, fs1, fs2, hob1, hob2⟩ := two_byteAt (xs (0 + 1 : Int32).toNatClampNeg) (xs (0 + 2 : Int32).toNatClampNeg) (xs (0 + 3 : Int32).toNatClampNeg)
  refine lv_aload_n hx hb d_law_274 rfl (lv_at hl 2 rfl) ?_
  refine lv_aload_n hx hb d_law_275 rfl (lv_at hl 3 rfl) ?_
  refine lv_iload_n hx hb d_law_276 rfl (lv_at hl 0 rfl) ?_
  refine lv_iconst (v := 1) hx hb d_law_277 (by decide) ?_
  refine lv_iadd hx hb d_law_278 ?_
  refine va_sld hx hb hX hbl hbA hS (q_in_s (by decide +kernel)) d_law_279 ?_
  refine lv_aload_n hx hb d_law_280 rfl (lv_at hl 3 rfl) ?_
  refine lv_iload_n hx hb d_law_281 rfl (lv_at hl 0 rfl) ?_
  refine lv_iconst (v := 2) hx hb d_law_282 (by decide) ?_
  refine lv_iadd hx hb d_law_283 ?_
  refine va_sld hx hb hX hbl hbA hS (q_in_s (by decide +kernel)) d_law_284 ?_
  refine lv_aload_n hx hb d_law_285 rfl (lv_at hl 3 rfl) ?_
  refine lv_iload_n hx hb d_law_286 rfl (lv_at hl 0 rfl) ?_
  refine lv_iconst (v := 3) hx hb d_law_287 (by decide) ?_
  refine lv_iadd hx hb d_law_288 ?_
  refine va_sld hx hb hX hbl hbA hS (q_in_s (by decide +kernel)) d_law_289 ?_
  refine l_inv (y := 25) (idx := 40) (a := 0) (as := [.int (xs (0 + 1 : Int32).toNatClampNeg), .int (xs (0 + 2 : Int32).toNatClampNeg), .int (xs (0 + 3 : Int32).toNatClampNeg)]) (rest := []) C1 (by decide) h1 k_law_40 d_law_290 rfl rfl rfl rfl (by decide) hob1 (by decide) (by decide +kernel) (by decide) hc hs hw hS hl.1 (fun H locs hw hS => ?_)
  refine lv_aload_n hx hb d_law_293 rfl (lv_at hl 1 rfl) ?_
  refine lv_aload_n hx hb d_law_294 rfl (lv_at hl 3 rfl) ?_
  refine lv_iload_n hx hb d_law_295 rfl (lv_at hl 0 rfl) ?_
  refine lv_iconst (v := 1) hx hb d_law_296 (by decide) ?_
  refine lv_iadd hx hb d_law_297 ?_
  refine va_sld hx hb hX hbl hbA hS (q_in_s (by decide +kernel)) d_law_298 ?_
  refine lv_aload_n hx hb d_law_299 rfl (lv_at hl 3 rfl) ?_
  refine lv_iload_n hx hb d_law_300 rfl (lv_at hl 0 rfl) ?_
  refine lv_iconst (v := 2) hx hb d_law_301 (by decide) ?_
  refine lv_iadd hx hb d_law_302 ?_
  refine va_sld hx hb hX hbl hbA hS (q_in_s (by decide +kernel)) d_law_303 ?_
  refine lv_aload_n hx hb d_law_304 rfl (lv_at hl 3 rfl) ?_
  refine lv_iload_n hx hb d_law_305 rfl (lv_at hl 0 rfl) ?_
  refine lv_iconst (v := 3) hx hb d_law_306 (by decide) ?_
  refine lv_iadd hx hb d_law_307 ?_
  refine va_sld hx hb hX hbl hbA hS (q_in_s (by decide +kernel)) d_law_308 ?_
  refine l_inv (y := 61) (idx := 44) (a := 448) (as := [.int (xs (0 + 1 : Int32).toNatClampNeg), .int (xs (0 + 2 : Int32).toNatClampNeg), .int (xs (0 + 3 : Int32).toNatClampNeg)]) (rest := [.int v]) C1 (by decide) h2 k_law_44 d_law_309 rfl rfl rfl rfl (by decide) hob2 (by decide) (by decide +kernel) (Nat.le_of_ble_eq_true rfl) hc hs hw hS hl.1 (fun H locs hw hS => ?_)
  refine lv_icmp_eq (tgt := 317) hx hb d_law_312 (by decide) (fun _ => ?_) (fun g => absurd rfl g)
  exact l_tail C1 hS hc hs hl
theorem l_and7 (x : Int32) : ∃ n, n < 8 ∧ x &&& 7 = Int32.ofNat n := by
  refine ⟨(x &&& 7).toBitVec.toNat, ?_, ?_⟩
  · rw [show (x &&& 7).toBitVec = x.toBitVec &&& 7#32 from rfl, BitVec.toNat_and]
    exact Nat.lt_of_le_of_lt Nat.and_le_right (by decide)
  · apply Int32.toBitVec_inj.mp
    show (x &&& 7).toBitVec = BitVec.ofNat 32 _
    simp
/-- the law's loop, on fresh objects: no call, or one -/
theorem l_loop (hL : L ≤ 6) (C1 : l_St p s m meth c b L xs D ad cy) (hw : l_W D s ad cy p_E H) (hS : l_S s H locs) (hc : cells ≤ 396798) (hs : slots ≤ 7911856) (hl : lv_has ls 4 [(3, .int 0), (2, .ref (q_rho s.heap.size ad 448)), (1, .ref (q_rho s.heap.size ad 0)), (0, .ref b)]) : W p l e room_1 s m #[Value.ref b] below meth c H locs cells slots (lw_Z below #[Value.ref b] s) (F0 m 18 ls []) := by
  have C0 := C1
  obtain ⟨⟨hx, hb, hr, hml, hown, hts, hX, hbl, hlocks, hgv⟩, hK, hT, hF⟩ := C0
  have hbA : ¬ (fun q : Nat => s.heap.size ≤ q) b := Nat.not_le.mpr hbl
  refine lv_iload_n hx hb d_law_18 rfl (lv_at hl 0 rfl) ?_
  refine lv_aload_n hx hb d_law_19 rfl (lv_at hl 3 rfl) ?_
  refine va_slen hx hb hX hbl hbA hS d_law_20 ?_
  refine lv_bipush (v := 6) hx hb d_law_21 (by decide) ?_
  refine lv_isub hx hb d_law_23 ?_
  refine lv_icmp_gt (tgt := 323) hx hb d_law_24 (by decide) (fun _ => l_end C1 hS hc hs) (fun g => ?_)
  have h6 : L = 6 := by
    have h7 : ∀ L, L < 6 → Int32.ofNat L - 6 < 0 := by decide
    rcases Nat.lt_or_ge L 6 with h | h
    · exact absurd (h7 L h) g
    · omega
  subst h6
  refine lv_aload_n hx hb d_law_27 rfl (lv_at hl 3 rfl) ?_
  refine lv_iload_n hx hb d_law_28 rfl (lv_at hl 0 rfl) ?_
  refine va_sld hx hb hX hbl hbA hS (q_in_s (by decide +kernel)) d_law_29 ?_
  refine lv_bipush (v := 7) hx hb d_law_30 (by decide) ?_
  refine lv_iand hx hb d_law_32 ?_
  obtain ⟨n, hn, e7⟩ := l_and7 (xs (0 : Int32).toNatClampNeg)
  rw [e7]
  match n, hn with
  | 0, _ => exact lv_tableIn (off := 43) (tgt := 76) hx hb d_law_33 (by decide) (by decide) (by decide) (by decide) (l_case0 C1 hw hS hc hs hl)
  | 1, _ => exact lv_tableIn (off := 106) (tgt := 139) hx hb d_law_33 (by decide) (by decide) (by decide) (by decide) (l_case1 C1 hw hS hc hs hl)
  | 2, _ => exact lv_tableIn (off := 129) (tgt := 162) hx hb d_law_33 (by decide) (by decide) (by decide) (by decide) (l_case2 C1 hw hS hc hs hl)
  | 3, _ => exact lv_tableIn (off := 152) (tgt := 185) hx hb d_law_33 (by decide) (by decide) (by decide) (by decide) (l_case3 C1 hw hS hc hs hl)
  | 4, _ => exact lv_tableIn (off := 175) (tgt := 208) hx hb d_law_33 (by decide) (by decide) (by decide) (by decide) (l_case4 C1 hw hS hc hs hl)
  | 5, _ => exact lv_tableIn (off := 208) (tgt := 241) hx hb d_law_33 (by decide) (by decide) (by decide) (by decide) (l_case5 C1 hw hS hc hs hl)
  | 6, _ => exact lv_tableIn (off := 241) (tgt := 274) hx hb d_law_33 (by decide) (by decide) (by decide) (by decide) (l_case6 C1 hw hS hc hs hl)
  | 7, _ => exact lv_tableOut (tgt := 317) hx hb d_law_33 (by decide) (by decide) (l_tail C1 hS hc hs hl)
  | n + 8, h => exact absurd h (by omega)
end LAW
end
section
set_option maxHeartbeats 4000000 in
/-- the law's walk: the two objects are made, then its loop -/
theorem whole_start {p : Program} {e : Env} {s : State} {m : MethodId} {below : List Frame} {meth : Method} {c : Code} (l : Launch) (hflags : l.flags = flags0) {b L : Nat} {xs : Nat → Int32} (hL : L ≤ 6) (C0 : lw_At p s m meth c b L xs) : W p l e room_1 s m #[Value.ref b] below meth c s.heap [] 0 0 (lw_Z below #[Value.ref b] s) (entryFrame m ([Value.ref b] : List Value).toArray 4) := by
  have C1 := C0
  obtain ⟨hx, hb, hr, hml, hown, hts, hX, hbl, hlocks, hgv⟩ := C0
  obtain ⟨D, cy, hK⟩ := l_K hts
  obtain ⟨ad, hT, hF⟩ := l_at hts hgv
  have C2 : l_St p s m meth c b L xs D ad cy := ⟨C1, hK, hT, hF⟩
  have hS : l_S s s.heap [] := va_S.rf
  have hw : l_W D s ad cy [] s.heap := ⟨rfl, fun k q h => by simp [q_ws] at h⟩
  have hl := lv_entry ([.ref b]) (n := 4) (Nat.le_of_ble_eq_true rfl)
  rw [lg_entry_eq]
  generalize (lg_sl ([.ref b]) ++ List.replicate (4 - (lg_sl ([.ref b])).length) Slot.unset).toArray = ls at hl ⊢
  have hl : lv_has ls 4 [(0, .ref b)] := hl
  refine l_new (ci := 11) C2 (by decide) k_law_7 (Nat.le_of_ble_eq_true rfl) (Nat.le_of_ble_eq_true rfl) d_law_0 hw hS (fun H locs hw hS => ?_)
  have hw : l_W D s ad cy p_E0 H := hw
  refine W.widen (k := 1) (n := 19) (Nat.le_of_ble_eq_true rfl) (Nat.le_of_ble_eq_true rfl) ?_
  refine lv_dup hx hb d_law_3 rfl ?_
  refine l_ini (y := 11) (idx := 9) (a := 0) (rest := [.ref (q_rho s.heap.size ad 0)]) C2 (by decide) p_house k_law_9 d_law_4 rfl rfl rfl rfl rfl (by decide) (by decide +kernel) (Nat.le_of_ble_eq_true rfl) (Nat.le_of_ble_eq_true rfl) (Nat.le_of_ble_eq_true rfl) hw hS hl.1 (fun H locs hw hS => ?_)
  refine W.widen (k := 224) (n := 283994) (Nat.le_of_ble_eq_true rfl) (Nat.le_of_ble_eq_true rfl) ?_
  refine lv_astore_n (lv' := [(1, .ref (q_rho s.heap.size ad 0)), (0, .ref b)]) hx hb d_law_7 rfl hl (by decide) rfl (fun ls hl => ?_)
  refine l_new (ci := 12) C2 (by decide) k_law_10 (Nat.le_of_ble_eq_true rfl) (Nat.le_of_ble_eq_true rfl) d_law_8 hw hS (fun H locs hw hS => ?_)
  rw [show 2 * p_EH.length = 448 by decide +kernel]
  have hw : l_W D s ad cy p_E1 H := hw
  refine W.widen (k := 225) (n := 284072) (Nat.le_of_ble_eq_true rfl) (Nat.le_of_ble_eq_true rfl) ?_
  refine lv_dup hx hb d_law_11 rfl ?_
  refine l_ini (y := 12) (idx := 12) (a := 448) (rest := [.ref (q_rho s.heap.size ad 448)]) C2 (by decide) p_model k_law_12 d_law_12 rfl rfl rfl rfl rfl (by decide) (by decide +kernel) (Nat.le_of_ble_eq_true rfl) (Nat.le_of_ble_eq_true rfl) (Nat.le_of_ble_eq_true rfl) hw hS hl.1 (fun H locs hw hS => ?_)
  refine W.widen (k := 264) (n := 3234588) (Nat.le_of_ble_eq_true rfl) (Nat.le_of_ble_eq_true rfl) ?_
  refine lv_astore_n (lv' := [(2, .ref (q_rho s.heap.size ad 448)), (1, .ref (q_rho s.heap.size ad 0)), (0, .ref b)]) hx hb d_law_15 rfl hl (by decide) rfl (fun ls hl => ?_)
  refine lv_iconst (v := 0) hx hb d_law_16 (by decide) ?_
  refine lv_istore_n (lv' := [(3, .int 0), (2, .ref (q_rho s.heap.size ad 448)), (1, .ref (q_rho s.heap.size ad 0)), (0, .ref b)]) hx hb d_law_17 rfl hl (by decide) rfl (fun ls hl => ?_)
  exact l_loop hL C2 hw hS (Nat.le_of_ble_eq_true rfl) (Nat.le_of_ble_eq_true rfl) hl
set_option maxHeartbeats 4000000 in
theorem lw_walk (l : Launch) (hflags : l.flags = flags0) (b : Addr) (xs : List Int32) : MetFree l x (headSpec (Jvm.Cond.code x code maxLocals ret :: tables_1) room_1) (lw_P b xs) (fun _ _ _ _ _ => True) lw_Q := by
  refine MetFree.of_bodyS (code := code) (maxLocals := maxLocals) (ret := ret) (by decide) ?_ ?_
  · intro args s m h hn
    obtain ⟨meth, c, h1, h2, h3, h4, h5, h6, -, -⟩ := Cond.code_spec hn (atoms_spec (ws := Jvm.Cond.code x code maxLocals ret :: tables_1) h _ List.mem_cons_self)
    exact ⟨meth, c, h1, h2, h3, h4, h5, h6⟩
  · intro p e s m args below meth c s₁ B hml0 hP _
    obtain ⟨rfl, hx, hbd, hgv⟩ := hP
    obtain ⟨scr, harrAt, hlist, hof, hsmall⟩ := hx
    obtain ⟨hcb, hkn, -, -⟩ := State.arrayAt?_spec harrAt
    have hown : s.vm.findClass R_law = some m.cls := findClass_of_methodNamed B.named
    have hts0 : ∀ c ∈ (Jvm.Cond.code x code maxLocals ret :: tables_1), c.before #[Value.ref b] s = true := atoms_spec (ws := Jvm.Cond.code x code maxLocals ret :: tables_1) B.pre
    have hts : ∀ w ∈ lw_tbl, w.before #[Value.ref b] s = true := k2_hts_sels lw_privs (fun w hw => hts0 w (List.mem_cons_of_mem _ hw)) lw_privs_ok
    have hml : c.maxLocals = 4 := B.maxLocals_eq (hts0 _ List.mem_cons_self)
    have X₀ : Stand p l e room_1 s m #[Value.ref b] below meth c s₁ [] 0 0 := Stand.of_body B
    have hh0 : s₁.heap = s.heap := by rw [B.state]; rfl
    have hsz : scr.slots.size = xs.length := by rw [← Array.length_toList, hlist, List.length_map]
    have hval : ∀ j : Nat, j < xs.length → scr.slots[j]? = some (.int (xs.getD j 0)) := fun j hj => by
      rw [← Array.getElem?_toList, hlist]
      simp [hj]
    have hbl : b < s.heap.size := (Array.getElem?_eq_some_iff.mp hcb).1
    have hX : va_X b xs.length (fun j => xs.getD j 0) s s.heap := ⟨scr, hcb, hof, hkn, hsz, hval⟩
    have K : W p l e room_1 s m #[Value.ref b] below meth c s₁.heap [] 0 0 (lw_Z below #[Value.ref b] s) (entryFrame m ([Value.ref b] : List Value).toArray 4) := by
      rw [hh0]
      exact whole_start l hflags hbd ⟨B.exec, B.bytes, B.returns, hml, hown, hts, hX, hbl, B.notSynchronized, hgv⟩
    obtain ⟨t, a1, o, b1, b2, b3⟩ := K s₁ rfl X₀
    exact ⟨t, o, a1, b1, b2, b3⟩
theorem lw_pre_spec {args : Array Value} {s : State} (h : (Jvm.Cond.and given_1 narrow_1).before args s = true) (hr : rest_1_c.before args s = true) : ∃ (b : Addr) (xs : List Int32), lw_P b xs args s := by
  have hs := flat_of_before _ h
  have hq := flat_of_before _ hr
  have hc : (Cond.count 1).before args s = true := hs _ (by decide +kernel)
  have harr : (Cond.arrayOf (.arg 0) .int).before args s = true := hs _ (by decide +kernel)
  have hle : (Cond.le (.length (.arg 0)) (.int 6)).before args s = true := hs _ (by decide +kernel)
  have hlen : (Cond.isInt (.length (.arg 0))).before args s = true := hq _ (by decide +kernel)
  have hall : (Cond.all (.arg 0) (.isInt (.elem (.arg 0) (.index 0)))).before args s = true := hq _ (by decide +kernel)
  obtain ⟨b, xs, hb, hx⟩ := State.ints_of_pre rfl harr hlen hall
  have hsm : xs.length < 2 ^ 31 := hx.choose_spec.2.2.2
  have hev : (Term.length (.arg 0)).eval args s none [] s = some (.int xs.length.toInt32) := hx.length_eval hb
  have hv := Cond.le_ints hev (show (Term.int 6).eval args s none [] s = some (.int 6) from rfl)
  have hd : xs.length.toInt32 ≤ 6 := by
    simpa [Cond.before, Cond.holds, hv] using hle
  have hN : xs.length ≤ 6 := (Int32.ofNat_le_ofNat hsm (by decide)).mp (show Int32.ofNat xs.length ≤ Int32.ofNat 6 from hd)
  exact ⟨b, xs, Cond.one_arg hc (show args[0]? = some (.ref b) from hb), hx, hN, h⟩
theorem lw_comes (l : Launch) (hflags : l.flags = flags0) : Comes l x (Jvm.Cond.code x code maxLocals ret :: tables_1) room_1 (fun tb e args s => Calls_1 tb e args s ∧ rest_1 tb e args s ∧ Pre_1 tb e args s)
    (fun _ _ args s o t => lw_Q args s o t) := by
  intro p e ha hc hk s m args below hf hfit hheap happ hpre
  obtain ⟨b, xs, hP⟩ := lw_pre_spec hpre.2.2 hpre.2.1
  obtain ⟨k, o, h1, h2, h3, hQ⟩ := lw_walk l hflags b xs p e ha hc hk s m args below hf ((Spec.applies_iff_loose hf).mp happ).1 hP trivial
  exact ⟨k, o, h1, h2, h3, hQ⟩
theorem lw_frame {s t : State} {o : Outcome} {args : Array Value} (h : Framed s o t [] 396798 7911856) :
    Framed s o t (fieldLocs frame_1_writes args s ++ arrayLocs frame_1_arrays args s ++ staticLocs frame_1_statics s) 396798 7911856 := h
theorem lw_limb (L : Cond) (hL : ∀ (args : Array Value) (s t : State), L.after args s (.returned (some (.int 1))) t = true) :
    ArmFor flags0 classFile x code maxLocals ret World_1 tables_1 room_1 Calls_1 rest_1 Pre_1
      (fun tb e a s o t => postC L tb e a s o t ∧ Framed s o t (fieldLocs frame_1_writes a s ++ arrayLocs frame_1_arrays a s ++ staticLocs frame_1_statics s) 396798 7911856) := by
  intro l hflags _ _ p e ha hc hk s m args below hf hfit hheap happ hpre
  obtain ⟨k, o, h1, h2, h3, rfl, hF⟩ := lw_comes l hflags p e ha hc hk s m args below hf hfit hheap happ hpre
  exact ⟨k, _, h1, h2, h3, hL args s _, lw_frame hF⟩
theorem i_vc : Claimed_1_1 ∧ Claimed_1_2 := ⟨lw_limb limb_1_1 (fun args s t => by simp [limb_1_1, Cond.after, Cond.holds, Cond.value]), lw_limb limb_1_2 (fun args s t => Cond.after_iff.mpr (by
  first | (rw [show limb_1_2 = Cond.eq .result (.int 1) from rfl, Cond.eq_ints (x := 1) (y := 1) rfl rfl]; simp; done) | (simp [limb_1_2, Cond.value, Term.eval]; done)))⟩
end

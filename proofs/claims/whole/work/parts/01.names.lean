-- ===== PART A: goes FIRST, ahead of the names: the tables' words, and 'selects' of the private methods out of them =====
/-- a private method of a class that the tables say can be made, by its rows of tables_1 -/
def lw_okq (q : MethodName × Nat) : Prop := (q.1.cls ≠ "java/lang/invoke/MethodHandle" ∧ q.1.cls ≠ "java/lang/invoke/VarHandle") ∧ Cond.instantiable q.1.cls q.2 ∈ tables_1 ∧ Cond.privateMethod q.1 ∈ tables_1 ∧ Cond.instanceMethod q.1 ∈ tables_1
theorem lw_p0 : lw_okq (⟨"DialTown", "found", "(I)I"⟩, 11) := ⟨⟨by decide +kernel, by decide +kernel⟩, List.mem_of_getElem? (i := 18) (by decide +kernel), List.mem_of_getElem? (i := 275) (by decide +kernel), List.mem_of_getElem? (i := 276) (by decide +kernel)⟩
theorem lw_p1 : lw_okq (⟨"DialTown", "fine", "(I)I"⟩, 11) := ⟨⟨by decide +kernel, by decide +kernel⟩, List.mem_of_getElem? (i := 18) (by decide +kernel), List.mem_of_getElem? (i := 287) (by decide +kernel), List.mem_of_getElem? (i := 288) (by decide +kernel)⟩
theorem lw_p2 : lw_okq (⟨"DialTown$Reader", "readsTower", "()Z"⟩, 9) := ⟨⟨by decide +kernel, by decide +kernel⟩, List.mem_of_getElem? (i := 131) (by decide +kernel), List.mem_of_getElem? (i := 364) (by decide +kernel), List.mem_of_getElem? (i := 365) (by decide +kernel)⟩
theorem lw_p3 : lw_okq (⟨"DialTown$Reader", "takeToken", "()V"⟩, 9) := ⟨⟨by decide +kernel, by decide +kernel⟩, List.mem_of_getElem? (i := 131) (by decide +kernel), List.mem_of_getElem? (i := 368) (by decide +kernel), List.mem_of_getElem? (i := 369) (by decide +kernel)⟩
theorem lw_p4 : lw_okq (⟨"DialTown$Reader", "isWord", "(Ljava/lang/String;)Z"⟩, 9) := ⟨⟨by decide +kernel, by decide +kernel⟩, List.mem_of_getElem? (i := 131) (by decide +kernel), List.mem_of_getElem? (i := 389) (by decide +kernel), List.mem_of_getElem? (i := 390) (by decide +kernel)⟩
theorem lw_p5 : lw_okq (⟨"DialTown$Reader", "fails", "(I)Z"⟩, 9) := ⟨⟨by decide +kernel, by decide +kernel⟩, List.mem_of_getElem? (i := 131) (by decide +kernel), List.mem_of_getElem? (i := 446) (by decide +kernel), List.mem_of_getElem? (i := 447) (by decide +kernel)⟩
theorem lw_p6 : lw_okq (⟨"DialTown$Reader", "readsNumber", "(II)Z"⟩, 9) := ⟨⟨by decide +kernel, by decide +kernel⟩, List.mem_of_getElem? (i := 131) (by decide +kernel), List.mem_of_getElem? (i := 450) (by decide +kernel), List.mem_of_getElem? (i := 451) (by decide +kernel)⟩
theorem lw_p7 : lw_okq (⟨"DialTown$Reader", "readsSign", "()Z"⟩, 9) := ⟨⟨by decide +kernel, by decide +kernel⟩, List.mem_of_getElem? (i := 131) (by decide +kernel), List.mem_of_getElem? (i := 463) (by decide +kernel), List.mem_of_getElem? (i := 464) (by decide +kernel)⟩
theorem lw_p8 : lw_okq (⟨"DialTown$Reader", "readsWall", "()Z"⟩, 9) := ⟨⟨by decide +kernel, by decide +kernel⟩, List.mem_of_getElem? (i := 131) (by decide +kernel), List.mem_of_getElem? (i := 468) (by decide +kernel), List.mem_of_getElem? (i := 469) (by decide +kernel)⟩
theorem lw_p9 : lw_okq (⟨"DialTown$Reader", "readCell", "()I"⟩, 9) := ⟨⟨by decide +kernel, by decide +kernel⟩, List.mem_of_getElem? (i := 131) (by decide +kernel), List.mem_of_getElem? (i := 472) (by decide +kernel), List.mem_of_getElem? (i := 473) (by decide +kernel)⟩
theorem lw_p10 : lw_okq (⟨"DialTown$Reader", "readsShop", "()Z"⟩, 9) := ⟨⟨by decide +kernel, by decide +kernel⟩, List.mem_of_getElem? (i := 131) (by decide +kernel), List.mem_of_getElem? (i := 487) (by decide +kernel), List.mem_of_getElem? (i := 488) (by decide +kernel)⟩
theorem lw_p11 : lw_okq (⟨"DialTown$Reader", "sortTold", "()I"⟩, 9) := ⟨⟨by decide +kernel, by decide +kernel⟩, List.mem_of_getElem? (i := 131) (by decide +kernel), List.mem_of_getElem? (i := 491) (by decide +kernel), List.mem_of_getElem? (i := 492) (by decide +kernel)⟩
theorem lw_p12 : lw_okq (⟨"DialTown$Dial", "isOpen", "(III)Z"⟩, 4) := ⟨⟨by decide +kernel, by decide +kernel⟩, List.mem_of_getElem? (i := 167) (by decide +kernel), List.mem_of_getElem? (i := 613) (by decide +kernel), List.mem_of_getElem? (i := 614) (by decide +kernel)⟩
theorem lw_p13 : lw_okq (⟨"DialTown", "openSlotsOfYear", "(I)I"⟩, 11) := ⟨⟨by decide +kernel, by decide +kernel⟩, List.mem_of_getElem? (i := 18) (by decide +kernel), List.mem_of_getElem? (i := 631) (by decide +kernel), List.mem_of_getElem? (i := 632) (by decide +kernel)⟩
theorem lw_p14 : lw_okq (⟨"DialTown$Walker", "measure", "(LDialTown$Town;I[I)V"⟩, 7) := ⟨⟨by decide +kernel, by decide +kernel⟩, List.mem_of_getElem? (i := 188) (by decide +kernel), List.mem_of_getElem? (i := 658) (by decide +kernel), List.mem_of_getElem? (i := 659) (by decide +kernel)⟩
theorem lw_p15 : lw_okq (⟨"DialTown$Walker", "tellOpenings", "([II)V"⟩, 7) := ⟨⟨by decide +kernel, by decide +kernel⟩, List.mem_of_getElem? (i := 188) (by decide +kernel), List.mem_of_getElem? (i := 673) (by decide +kernel), List.mem_of_getElem? (i := 674) (by decide +kernel)⟩
def lw_privs_1 : List (MethodName × Nat) := [(⟨"DialTown", "found", "(I)I"⟩, 11), (⟨"DialTown", "fine", "(I)I"⟩, 11), (⟨"DialTown$Reader", "readsTower", "()Z"⟩, 9), (⟨"DialTown$Reader", "takeToken", "()V"⟩, 9), (⟨"DialTown$Reader", "isWord", "(Ljava/lang/String;)Z"⟩, 9), (⟨"DialTown$Reader", "fails", "(I)Z"⟩, 9), (⟨"DialTown$Reader", "readsNumber", "(II)Z"⟩, 9), (⟨"DialTown$Reader", "readsSign", "()Z"⟩, 9), (⟨"DialTown$Reader", "readsWall", "()Z"⟩, 9), (⟨"DialTown$Reader", "readCell", "()I"⟩, 9), (⟨"DialTown$Reader", "readsShop", "()Z"⟩, 9), (⟨"DialTown$Reader", "sortTold", "()I"⟩, 9), (⟨"DialTown$Dial", "isOpen", "(III)Z"⟩, 4), (⟨"DialTown", "openSlotsOfYear", "(I)I"⟩, 11), (⟨"DialTown$Walker", "measure", "(LDialTown$Town;I[I)V"⟩, 7), (⟨"DialTown$Walker", "tellOpenings", "([II)V"⟩, 7)]
theorem lw_r1 : ∀ q ∈ lw_privs_1, lw_okq q := List.forall_mem_cons.mpr ⟨lw_p0, List.forall_mem_cons.mpr ⟨lw_p1, List.forall_mem_cons.mpr ⟨lw_p2, List.forall_mem_cons.mpr ⟨lw_p3, List.forall_mem_cons.mpr ⟨lw_p4, List.forall_mem_cons.mpr ⟨lw_p5, List.forall_mem_cons.mpr ⟨lw_p6, List.forall_mem_cons.mpr ⟨lw_p7, List.forall_mem_cons.mpr ⟨lw_p8, List.forall_mem_cons.mpr ⟨lw_p9, List.forall_mem_cons.mpr ⟨lw_p10, List.forall_mem_cons.mpr ⟨lw_p11, List.forall_mem_cons.mpr ⟨lw_p12, List.forall_mem_cons.mpr ⟨lw_p13, List.forall_mem_cons.mpr ⟨lw_p14, List.forall_mem_cons.mpr ⟨lw_p15, fun _ h => absurd h List.not_mem_nil⟩⟩⟩⟩⟩⟩⟩⟩⟩⟩⟩⟩⟩⟩⟩⟩
theorem lw_p16 : lw_okq (⟨"DialTown$Walker", "endOfSet", "(LDialTown$Town;IIII)I"⟩, 7) := ⟨⟨by decide +kernel, by decide +kernel⟩, List.mem_of_getElem? (i := 188) (by decide +kernel), List.mem_of_getElem? (i := 677) (by decide +kernel), List.mem_of_getElem? (i := 678) (by decide +kernel)⟩
theorem lw_p17 : lw_okq (⟨"DialTown$Walker", "openingFrom", "(II)I"⟩, 7) := ⟨⟨by decide +kernel, by decide +kernel⟩, List.mem_of_getElem? (i := 188) (by decide +kernel), List.mem_of_getElem? (i := 681) (by decide +kernel), List.mem_of_getElem? (i := 682) (by decide +kernel)⟩
theorem lw_p18 : lw_okq (⟨"DialTown$Dial", "countHours", "(LDialTown$Town;I)V"⟩, 4) := ⟨⟨by decide +kernel, by decide +kernel⟩, List.mem_of_getElem? (i := 167) (by decide +kernel), List.mem_of_getElem? (i := 725) (by decide +kernel), List.mem_of_getElem? (i := 726) (by decide +kernel)⟩
theorem lw_p19 : lw_okq (⟨"DialTown$Asker", "begin", "(LDialTown$Town;III)I"⟩, 2) := ⟨⟨by decide +kernel, by decide +kernel⟩, List.mem_of_getElem? (i := 218) (by decide +kernel), List.mem_of_getElem? (i := 779) (by decide +kernel), List.mem_of_getElem? (i := 780) (by decide +kernel)⟩
theorem lw_p20 : lw_okq (⟨"DialTown$Asker", "note", "(I)V"⟩, 2) := ⟨⟨by decide +kernel, by decide +kernel⟩, List.mem_of_getElem? (i := 218) (by decide +kernel), List.mem_of_getElem? (i := 783) (by decide +kernel), List.mem_of_getElem? (i := 784) (by decide +kernel)⟩
theorem lw_p21 : lw_okq (⟨"DialTownModel", "finding", "(I)I"⟩, 27) := ⟨⟨by decide +kernel, by decide +kernel⟩, List.mem_of_getElem? (i := 803) (by decide +kernel), List.mem_of_getElem? (i := 905) (by decide +kernel), List.mem_of_getElem? (i := 906) (by decide +kernel)⟩
theorem lw_p22 : lw_okq (⟨"DialTownModel", "begin", "()V"⟩, 27) := ⟨⟨by decide +kernel, by decide +kernel⟩, List.mem_of_getElem? (i := 803) (by decide +kernel), List.mem_of_getElem? (i := 933) (by decide +kernel), List.mem_of_getElem? (i := 934) (by decide +kernel)⟩
theorem lw_p23 : lw_okq (⟨"DialTownModel", "next", "()V"⟩, 27) := ⟨⟨by decide +kernel, by decide +kernel⟩, List.mem_of_getElem? (i := 803) (by decide +kernel), List.mem_of_getElem? (i := 937) (by decide +kernel), List.mem_of_getElem? (i := 938) (by decide +kernel)⟩
theorem lw_p24 : lw_okq (⟨"DialTownModel", "byteAt", "(I)I"⟩, 27) := ⟨⟨by decide +kernel, by decide +kernel⟩, List.mem_of_getElem? (i := 803) (by decide +kernel), List.mem_of_getElem? (i := 941) (by decide +kernel), List.mem_of_getElem? (i := 942) (by decide +kernel)⟩
theorem lw_p25 : lw_okq (⟨"DialTownModel", "readTower", "()V"⟩, 27) := ⟨⟨by decide +kernel, by decide +kernel⟩, List.mem_of_getElem? (i := 803) (by decide +kernel), List.mem_of_getElem? (i := 952) (by decide +kernel), List.mem_of_getElem? (i := 953) (by decide +kernel)⟩
theorem lw_p26 : lw_okq (⟨"DialTownModel", "name", "()J"⟩, 27) := ⟨⟨by decide +kernel, by decide +kernel⟩, List.mem_of_getElem? (i := 803) (by decide +kernel), List.mem_of_getElem? (i := 956) (by decide +kernel), List.mem_of_getElem? (i := 957) (by decide +kernel)⟩
theorem lw_p27 : lw_okq (⟨"DialTownModel", "must", "(Z)V"⟩, 27) := ⟨⟨by decide +kernel, by decide +kernel⟩, List.mem_of_getElem? (i := 803) (by decide +kernel), List.mem_of_getElem? (i := 961) (by decide +kernel), List.mem_of_getElem? (i := 962) (by decide +kernel)⟩
theorem lw_p28 : lw_okq (⟨"DialTownModel", "bad", "(I)V"⟩, 27) := ⟨⟨by decide +kernel, by decide +kernel⟩, List.mem_of_getElem? (i := 803) (by decide +kernel), List.mem_of_getElem? (i := 965) (by decide +kernel), List.mem_of_getElem? (i := 966) (by decide +kernel)⟩
theorem lw_p29 : lw_okq (⟨"DialTownModel", "number", "(II)I"⟩, 27) := ⟨⟨by decide +kernel, by decide +kernel⟩, List.mem_of_getElem? (i := 803) (by decide +kernel), List.mem_of_getElem? (i := 969) (by decide +kernel), List.mem_of_getElem? (i := 970) (by decide +kernel)⟩
theorem lw_p30 : lw_okq (⟨"DialTownModel", "figures", "()I"⟩, 27) := ⟨⟨by decide +kernel, by decide +kernel⟩, List.mem_of_getElem? (i := 803) (by decide +kernel), List.mem_of_getElem? (i := 973) (by decide +kernel), List.mem_of_getElem? (i := 974) (by decide +kernel)⟩
theorem lw_p31 : lw_okq (⟨"DialTownModel", "mustEnd", "()V"⟩, 27) := ⟨⟨by decide +kernel, by decide +kernel⟩, List.mem_of_getElem? (i := 803) (by decide +kernel), List.mem_of_getElem? (i := 977) (by decide +kernel), List.mem_of_getElem? (i := 978) (by decide +kernel)⟩
def lw_privs_2 : List (MethodName × Nat) := [(⟨"DialTown$Walker", "endOfSet", "(LDialTown$Town;IIII)I"⟩, 7), (⟨"DialTown$Walker", "openingFrom", "(II)I"⟩, 7), (⟨"DialTown$Dial", "countHours", "(LDialTown$Town;I)V"⟩, 4), (⟨"DialTown$Asker", "begin", "(LDialTown$Town;III)I"⟩, 2), (⟨"DialTown$Asker", "note", "(I)V"⟩, 2), (⟨"DialTownModel", "finding", "(I)I"⟩, 27), (⟨"DialTownModel", "begin", "()V"⟩, 27), (⟨"DialTownModel", "next", "()V"⟩, 27), (⟨"DialTownModel", "byteAt", "(I)I"⟩, 27), (⟨"DialTownModel", "readTower", "()V"⟩, 27), (⟨"DialTownModel", "name", "()J"⟩, 27), (⟨"DialTownModel", "must", "(Z)V"⟩, 27), (⟨"DialTownModel", "bad", "(I)V"⟩, 27), (⟨"DialTownModel", "number", "(II)I"⟩, 27), (⟨"DialTownModel", "figures", "()I"⟩, 27), (⟨"DialTownModel", "mustEnd", "()V"⟩, 27)]
theorem lw_r2 : ∀ q ∈ lw_privs_2, lw_okq q := List.forall_mem_cons.mpr ⟨lw_p16, List.forall_mem_cons.mpr ⟨lw_p17, List.forall_mem_cons.mpr ⟨lw_p18, List.forall_mem_cons.mpr ⟨lw_p19, List.forall_mem_cons.mpr ⟨lw_p20, List.forall_mem_cons.mpr ⟨lw_p21, List.forall_mem_cons.mpr ⟨lw_p22, List.forall_mem_cons.mpr ⟨lw_p23, List.forall_mem_cons.mpr ⟨lw_p24, List.forall_mem_cons.mpr ⟨lw_p25, List.forall_mem_cons.mpr ⟨lw_p26, List.forall_mem_cons.mpr ⟨lw_p27, List.forall_mem_cons.mpr ⟨lw_p28, List.forall_mem_cons.mpr ⟨lw_p29, List.forall_mem_cons.mpr ⟨lw_p30, List.forall_mem_cons.mpr ⟨lw_p31, fun _ h => absurd h List.not_mem_nil⟩⟩⟩⟩⟩⟩⟩⟩⟩⟩⟩⟩⟩⟩⟩⟩
theorem lw_p32 : lw_okq (⟨"DialTownModel", "readWall", "()V"⟩, 27) := ⟨⟨by decide +kernel, by decide +kernel⟩, List.mem_of_getElem? (i := 803) (by decide +kernel), List.mem_of_getElem? (i := 982) (by decide +kernel), List.mem_of_getElem? (i := 983) (by decide +kernel)⟩
theorem lw_p33 : lw_okq (⟨"DialTownModel", "begins", "(II)V"⟩, 27) := ⟨⟨by decide +kernel, by decide +kernel⟩, List.mem_of_getElem? (i := 803) (by decide +kernel), List.mem_of_getElem? (i := 986) (by decide +kernel), List.mem_of_getElem? (i := 987) (by decide +kernel)⟩
theorem lw_p34 : lw_okq (⟨"DialTownModel", "readShop", "()V"⟩, 27) := ⟨⟨by decide +kernel, by decide +kernel⟩, List.mem_of_getElem? (i := 803) (by decide +kernel), List.mem_of_getElem? (i := 991) (by decide +kernel), List.mem_of_getElem? (i := 992) (by decide +kernel)⟩
theorem lw_p35 : lw_okq (⟨"DialTownModel", "isThere", "()Z"⟩, 27) := ⟨⟨by decide +kernel, by decide +kernel⟩, List.mem_of_getElem? (i := 803) (by decide +kernel), List.mem_of_getElem? (i := 1015) (by decide +kernel), List.mem_of_getElem? (i := 1016) (by decide +kernel)⟩
theorem lw_p36 : lw_okq (⟨"DialTownModel", "clouds", "()I"⟩, 27) := ⟨⟨by decide +kernel, by decide +kernel⟩, List.mem_of_getElem? (i := 803) (by decide +kernel), List.mem_of_getElem? (i := 1046) (by decide +kernel), List.mem_of_getElem? (i := 1047) (by decide +kernel)⟩
theorem lw_p37 : lw_okq (⟨"DialTownModel", "layNow", "(I)V"⟩, 27) := ⟨⟨by decide +kernel, by decide +kernel⟩, List.mem_of_getElem? (i := 803) (by decide +kernel), List.mem_of_getElem? (i := 1071) (by decide +kernel), List.mem_of_getElem? (i := 1072) (by decide +kernel)⟩
theorem lw_p38 : lw_okq (⟨"DialTownModel", "layShadow", "(IIII)V"⟩, 27) := ⟨⟨by decide +kernel, by decide +kernel⟩, List.mem_of_getElem? (i := 803) (by decide +kernel), List.mem_of_getElem? (i := 1075) (by decide +kernel), List.mem_of_getElem? (i := 1076) (by decide +kernel)⟩
theorem lw_p39 : lw_okq (⟨"DialTownModel", "openAt", "(I)I"⟩, 27) := ⟨⟨by decide +kernel, by decide +kernel⟩, List.mem_of_getElem? (i := 803) (by decide +kernel), List.mem_of_getElem? (i := 1086) (by decide +kernel), List.mem_of_getElem? (i := 1087) (by decide +kernel)⟩
theorem lw_p40 : lw_okq (⟨"DialTownModel", "openBy", "(I)I"⟩, 27) := ⟨⟨by decide +kernel, by decide +kernel⟩, List.mem_of_getElem? (i := 803) (by decide +kernel), List.mem_of_getElem? (i := 1090) (by decide +kernel), List.mem_of_getElem? (i := 1091) (by decide +kernel)⟩
theorem lw_p41 : lw_okq (⟨"DialTownModel", "kind0", "(I)I"⟩, 27) := ⟨⟨by decide +kernel, by decide +kernel⟩, List.mem_of_getElem? (i := 803) (by decide +kernel), List.mem_of_getElem? (i := 1094) (by decide +kernel), List.mem_of_getElem? (i := 1095) (by decide +kernel)⟩
theorem lw_p42 : lw_okq (⟨"DialTownModel", "cellOf", "(I)I"⟩, 27) := ⟨⟨by decide +kernel, by decide +kernel⟩, List.mem_of_getElem? (i := 803) (by decide +kernel), List.mem_of_getElem? (i := 1098) (by decide +kernel), List.mem_of_getElem? (i := 1099) (by decide +kernel)⟩
theorem lw_p43 : lw_okq (⟨"DialTownModel", "isOpen", "(III)Z"⟩, 27) := ⟨⟨by decide +kernel, by decide +kernel⟩, List.mem_of_getElem? (i := 803) (by decide +kernel), List.mem_of_getElem? (i := 1102) (by decide +kernel), List.mem_of_getElem? (i := 1103) (by decide +kernel)⟩
theorem lw_p44 : lw_okq (⟨"DialTownModel", "isShop", "(I)Z"⟩, 27) := ⟨⟨by decide +kernel, by decide +kernel⟩, List.mem_of_getElem? (i := 803) (by decide +kernel), List.mem_of_getElem? (i := 1114) (by decide +kernel), List.mem_of_getElem? (i := 1115) (by decide +kernel)⟩
theorem lw_p45 : lw_okq (⟨"DialTownModel", "slotsNow", "(I)I"⟩, 27) := ⟨⟨by decide +kernel, by decide +kernel⟩, List.mem_of_getElem? (i := 803) (by decide +kernel), List.mem_of_getElem? (i := 1118) (by decide +kernel), List.mem_of_getElem? (i := 1119) (by decide +kernel)⟩
theorem lw_p46 : lw_okq (⟨"DialTownModel", "slotsOf", "(IIIIZ)I"⟩, 27) := ⟨⟨by decide +kernel, by decide +kernel⟩, List.mem_of_getElem? (i := 803) (by decide +kernel), List.mem_of_getElem? (i := 1122) (by decide +kernel), List.mem_of_getElem? (i := 1123) (by decide +kernel)⟩
theorem lw_p47 : lw_okq (⟨"DialTownModel", "mayBe", "(I)Z"⟩, 27) := ⟨⟨by decide +kernel, by decide +kernel⟩, List.mem_of_getElem? (i := 803) (by decide +kernel), List.mem_of_getElem? (i := 1130) (by decide +kernel), List.mem_of_getElem? (i := 1131) (by decide +kernel)⟩
def lw_privs_3 : List (MethodName × Nat) := [(⟨"DialTownModel", "readWall", "()V"⟩, 27), (⟨"DialTownModel", "begins", "(II)V"⟩, 27), (⟨"DialTownModel", "readShop", "()V"⟩, 27), (⟨"DialTownModel", "isThere", "()Z"⟩, 27), (⟨"DialTownModel", "clouds", "()I"⟩, 27), (⟨"DialTownModel", "layNow", "(I)V"⟩, 27), (⟨"DialTownModel", "layShadow", "(IIII)V"⟩, 27), (⟨"DialTownModel", "openAt", "(I)I"⟩, 27), (⟨"DialTownModel", "openBy", "(I)I"⟩, 27), (⟨"DialTownModel", "kind0", "(I)I"⟩, 27), (⟨"DialTownModel", "cellOf", "(I)I"⟩, 27), (⟨"DialTownModel", "isOpen", "(III)Z"⟩, 27), (⟨"DialTownModel", "isShop", "(I)Z"⟩, 27), (⟨"DialTownModel", "slotsNow", "(I)I"⟩, 27), (⟨"DialTownModel", "slotsOf", "(IIIIZ)I"⟩, 27), (⟨"DialTownModel", "mayBe", "(I)Z"⟩, 27)]
theorem lw_r3 : ∀ q ∈ lw_privs_3, lw_okq q := List.forall_mem_cons.mpr ⟨lw_p32, List.forall_mem_cons.mpr ⟨lw_p33, List.forall_mem_cons.mpr ⟨lw_p34, List.forall_mem_cons.mpr ⟨lw_p35, List.forall_mem_cons.mpr ⟨lw_p36, List.forall_mem_cons.mpr ⟨lw_p37, List.forall_mem_cons.mpr ⟨lw_p38, List.forall_mem_cons.mpr ⟨lw_p39, List.forall_mem_cons.mpr ⟨lw_p40, List.forall_mem_cons.mpr ⟨lw_p41, List.forall_mem_cons.mpr ⟨lw_p42, List.forall_mem_cons.mpr ⟨lw_p43, List.forall_mem_cons.mpr ⟨lw_p44, List.forall_mem_cons.mpr ⟨lw_p45, List.forall_mem_cons.mpr ⟨lw_p46, List.forall_mem_cons.mpr ⟨lw_p47, fun _ h => absurd h List.not_mem_nil⟩⟩⟩⟩⟩⟩⟩⟩⟩⟩⟩⟩⟩⟩⟩⟩
theorem lw_p48 : lw_okq (⟨"DialTownModel", "shopsAt", "(I)I"⟩, 27) := ⟨⟨by decide +kernel, by decide +kernel⟩, List.mem_of_getElem? (i := 803) (by decide +kernel), List.mem_of_getElem? (i := 1134) (by decide +kernel), List.mem_of_getElem? (i := 1135) (by decide +kernel)⟩
theorem lw_p49 : lw_okq (⟨"DialTownModel", "goOn", "(II)Z"⟩, 27) := ⟨⟨by decide +kernel, by decide +kernel⟩, List.mem_of_getElem? (i := 803) (by decide +kernel), List.mem_of_getElem? (i := 1138) (by decide +kernel), List.mem_of_getElem? (i := 1139) (by decide +kernel)⟩
theorem lw_p50 : lw_okq (⟨"DialTownModel", "nextCell", "(II)I"⟩, 27) := ⟨⟨by decide +kernel, by decide +kernel⟩, List.mem_of_getElem? (i := 803) (by decide +kernel), List.mem_of_getElem? (i := 1142) (by decide +kernel), List.mem_of_getElem? (i := 1143) (by decide +kernel)⟩
theorem lw_p51 : lw_okq (⟨"DialTownModel", "lack", "(III)I"⟩, 27) := ⟨⟨by decide +kernel, by decide +kernel⟩, List.mem_of_getElem? (i := 803) (by decide +kernel), List.mem_of_getElem? (i := 1151) (by decide +kernel), List.mem_of_getElem? (i := 1152) (by decide +kernel)⟩
theorem lw_p52 : lw_okq (⟨"DialTownModel", "spread", "([ZII)V"⟩, 27) := ⟨⟨by decide +kernel, by decide +kernel⟩, List.mem_of_getElem? (i := 803) (by decide +kernel), List.mem_of_getElem? (i := 1159) (by decide +kernel), List.mem_of_getElem? (i := 1160) (by decide +kernel)⟩
theorem lw_p53 : lw_okq (⟨"DialTownModel", "askSize", "(I)I"⟩, 27) := ⟨⟨by decide +kernel, by decide +kernel⟩, List.mem_of_getElem? (i := 803) (by decide +kernel), List.mem_of_getElem? (i := 1199) (by decide +kernel), List.mem_of_getElem? (i := 1200) (by decide +kernel)⟩
theorem lw_p54 : lw_okq (⟨"DialTownModel", "sunnySize", "(I)I"⟩, 27) := ⟨⟨by decide +kernel, by decide +kernel⟩, List.mem_of_getElem? (i := 803) (by decide +kernel), List.mem_of_getElem? (i := 1203) (by decide +kernel), List.mem_of_getElem? (i := 1204) (by decide +kernel)⟩
theorem lw_p55 : lw_okq (⟨"DialTownModel", "began", "(I)V"⟩, 27) := ⟨⟨by decide +kernel, by decide +kernel⟩, List.mem_of_getElem? (i := 803) (by decide +kernel), List.mem_of_getElem? (i := 1207) (by decide +kernel), List.mem_of_getElem? (i := 1208) (by decide +kernel)⟩
theorem lw_p56 : lw_okq (⟨"DialTownModel", "plainSize", "(I)I"⟩, 27) := ⟨⟨by decide +kernel, by decide +kernel⟩, List.mem_of_getElem? (i := 803) (by decide +kernel), List.mem_of_getElem? (i := 1211) (by decide +kernel), List.mem_of_getElem? (i := 1212) (by decide +kernel)⟩
theorem lw_p57 : lw_okq (⟨"DialTownModel", "markOf", "(I)I"⟩, 27) := ⟨⟨by decide +kernel, by decide +kernel⟩, List.mem_of_getElem? (i := 803) (by decide +kernel), List.mem_of_getElem? (i := 1215) (by decide +kernel), List.mem_of_getElem? (i := 1216) (by decide +kernel)⟩
def lw_privs_4 : List (MethodName × Nat) := [(⟨"DialTownModel", "shopsAt", "(I)I"⟩, 27), (⟨"DialTownModel", "goOn", "(II)Z"⟩, 27), (⟨"DialTownModel", "nextCell", "(II)I"⟩, 27), (⟨"DialTownModel", "lack", "(III)I"⟩, 27), (⟨"DialTownModel", "spread", "([ZII)V"⟩, 27), (⟨"DialTownModel", "askSize", "(I)I"⟩, 27), (⟨"DialTownModel", "sunnySize", "(I)I"⟩, 27), (⟨"DialTownModel", "began", "(I)V"⟩, 27), (⟨"DialTownModel", "plainSize", "(I)I"⟩, 27), (⟨"DialTownModel", "markOf", "(I)I"⟩, 27)]
theorem lw_r4 : ∀ q ∈ lw_privs_4, lw_okq q := List.forall_mem_cons.mpr ⟨lw_p48, List.forall_mem_cons.mpr ⟨lw_p49, List.forall_mem_cons.mpr ⟨lw_p50, List.forall_mem_cons.mpr ⟨lw_p51, List.forall_mem_cons.mpr ⟨lw_p52, List.forall_mem_cons.mpr ⟨lw_p53, List.forall_mem_cons.mpr ⟨lw_p54, List.forall_mem_cons.mpr ⟨lw_p55, List.forall_mem_cons.mpr ⟨lw_p56, List.forall_mem_cons.mpr ⟨lw_p57, fun _ h => absurd h List.not_mem_nil⟩⟩⟩⟩⟩⟩⟩⟩⟩⟩
def lw_privs : List (MethodName × Nat) := lw_privs_1 ++ (lw_privs_2 ++ (lw_privs_3 ++ (lw_privs_4)))
def lw_tbl : List Cond := k2_sels lw_privs ++ tables_1
theorem lw_privs_ok : ∀ q ∈ lw_privs, lw_okq q := by
  show ∀ q ∈ lw_privs_1 ++ (lw_privs_2 ++ (lw_privs_3 ++ (lw_privs_4))), lw_okq q
  exact List.forall_mem_append.mpr ⟨lw_r1, List.forall_mem_append.mpr ⟨lw_r2, List.forall_mem_append.mpr ⟨lw_r3, lw_r4⟩⟩⟩
def RX0 : String := "DialTown$Asker"
def TX0 : u_T := fun k => match k with
  | 0 => ("DialTown$Asker", "trail", "[I", true)
  | _ => ("DialTown$Asker", "traced", "I", false)
def tyX0 : Nat → FieldType := fun k => match k with
  | 0 => .array .int
  | _ => .int
theorem nmX0 : ∀ a, a < 2 → ∀ b, b < 2 → a ≠ b → (TX0 a).2.1 ≠ (TX0 b).2.1 := by decide +kernel
theorem tyX0_ok : ∀ k, k < 2 → parseFieldDescriptor (TX0 k).2.2.1 = some (tyX0 k) := by decide +kernel
abbrev cX0_init : ByteArray := prog_2_method_1_code
def yX0_init : MethodName := ⟨RX0, "<init>", "()V"⟩
abbrev cX0_isOfKind : ByteArray := prog_2_method_2_code
def yX0_isOfKind : MethodName := ⟨RX0, "isOfKind", "(II)Z"⟩
abbrev cX0_answer : ByteArray := prog_2_method_3_code
def yX0_answer : MethodName := ⟨RX0, "answer", "(LDialTown$Town;II)I"⟩
abbrev cX0_begin : ByteArray := prog_2_method_4_code
def yX0_begin : MethodName := ⟨RX0, "begin", "(LDialTown$Town;III)I"⟩
abbrev cX0_note : ByteArray := prog_2_method_5_code
def yX0_note : MethodName := ⟨RX0, "note", "(I)V"⟩
def RX1 : String := "DialTown$Dial"
def TX1 : u_T := fun k => match k with
  | 0 => ("DialTown$Dial", "shaded", "[I", true)
  | 1 => ("DialTown$Dial", "length", "I", false)
  | 2 => ("DialTown$Dial", "day", "[I", true)
  | _ => ("DialTown$Dial", "hours", "[I", true)
def tyX1 : Nat → FieldType := fun k => match k with
  | 0 => .array .int
  | 1 => .int
  | 2 => .array .int
  | _ => .array .int
theorem nmX1 : ∀ a, a < 4 → ∀ b, b < 4 → a ≠ b → (TX1 a).2.1 ≠ (TX1 b).2.1 := by decide +kernel
theorem tyX1_ok : ∀ k, k < 4 → parseFieldDescriptor (TX1 k).2.2.1 = some (tyX1 k) := by decide +kernel
abbrev cX1_init : ByteArray := prog_3_method_1_code
def yX1_init : MethodName := ⟨RX1, "<init>", "()V"⟩
abbrev cX1_throwShadow : ByteArray := prog_3_method_2_code
def yX1_throwShadow : MethodName := ⟨RX1, "throwShadow", "(LDialTown$Town;I)V"⟩
abbrev cX1_isInShadow : ByteArray := prog_3_method_3_code
def yX1_isInShadow : MethodName := ⟨RX1, "isInShadow", "(I)Z"⟩
abbrev cX1_openShops : ByteArray := prog_3_method_4_code
def yX1_openShops : MethodName := ⟨RX1, "openShops", "(LDialTown$Town;I)I"⟩
abbrev cX1_openSlots : ByteArray := prog_3_method_5_code
def yX1_openSlots : MethodName := ⟨RX1, "openSlots", "(LDialTown$Town;I)I"⟩
abbrev cX1_tellDay : ByteArray := prog_3_method_6_code
def yX1_tellDay : MethodName := ⟨RX1, "tellDay", "(LDialTown$Town;)V"⟩
abbrev cX1_bestCell : ByteArray := prog_3_method_7_code
def yX1_bestCell : MethodName := ⟨RX1, "bestCell", "(LDialTown$Town;I)I"⟩
abbrev cX1_countHours : ByteArray := prog_3_method_8_code
def yX1_countHours : MethodName := ⟨RX1, "countHours", "(LDialTown$Town;I)V"⟩
abbrev cX1_isOpen : ByteArray := prog_3_method_9_code
def yX1_isOpen : MethodName := ⟨RX1, "isOpen", "(III)Z"⟩
def RX2 : String := "DialTown$Reader"
def TX2 : u_T := fun k => match k with
  | 0 => ("DialTown$Reader", "tape", "LDialTown$Tape;", true)
  | 1 => ("DialTown$Reader", "town", "LDialTown$Town;", true)
  | 2 => ("DialTown$Reader", "next", "I", false)
  | 3 => ("DialTown$Reader", "token", "I", false)
  | 4 => ("DialTown$Reader", "from", "I", false)
  | 5 => ("DialTown$Reader", "number", "I", false)
  | 6 => ("DialTown$Reader", "wallsTold", "I", false)
  | 7 => ("DialTown$Reader", "faultNumber", "I", false)
  | _ => ("DialTown$Reader", "faultPlace", "I", false)
def tyX2 : Nat → FieldType := fun k => match k with
  | 0 => .object "DialTown$Tape"
  | 1 => .object "DialTown$Town"
  | 2 => .int
  | 3 => .int
  | 4 => .int
  | 5 => .int
  | 6 => .int
  | 7 => .int
  | _ => .int
theorem nmX2 : ∀ a, a < 9 → ∀ b, b < 9 → a ≠ b → (TX2 a).2.1 ≠ (TX2 b).2.1 := by decide +kernel
theorem tyX2_ok : ∀ k, k < 9 → parseFieldDescriptor (TX2 k).2.2.1 = some (tyX2 k) := by decide +kernel
abbrev cX2_init : ByteArray := prog_4_method_1_code
def yX2_init : MethodName := ⟨RX2, "<init>", "(LDialTown$Tape;LDialTown$Town;)V"⟩
abbrev cX2_readsAll : ByteArray := prog_4_method_2_code
def yX2_readsAll : MethodName := ⟨RX2, "readsAll", "()Z"⟩
abbrev cX2_readsTower : ByteArray := prog_4_method_3_code
def yX2_readsTower : MethodName := ⟨RX2, "readsTower", "()Z"⟩
abbrev cX2_readsWall : ByteArray := prog_4_method_4_code
def yX2_readsWall : MethodName := ⟨RX2, "readsWall", "()Z"⟩
abbrev cX2_readsShop : ByteArray := prog_4_method_5_code
def yX2_readsShop : MethodName := ⟨RX2, "readsShop", "()Z"⟩
abbrev cX2_sortTold : ByteArray := prog_4_method_6_code
def yX2_sortTold : MethodName := ⟨RX2, "sortTold", "()I"⟩
abbrev cX2_readCell : ByteArray := prog_4_method_7_code
def yX2_readCell : MethodName := ⟨RX2, "readCell", "()I"⟩
abbrev cX2_readsNumber : ByteArray := prog_4_method_8_code
def yX2_readsNumber : MethodName := ⟨RX2, "readsNumber", "(II)Z"⟩
abbrev cX2_readsSign : ByteArray := prog_4_method_9_code
def yX2_readsSign : MethodName := ⟨RX2, "readsSign", "()Z"⟩
abbrev cX2_isWord : ByteArray := prog_4_method_10_code
def yX2_isWord : MethodName := ⟨RX2, "isWord", "(Ljava/lang/String;)Z"⟩
abbrev cX2_fails : ByteArray := prog_4_method_11_code
def yX2_fails : MethodName := ⟨RX2, "fails", "(I)Z"⟩
abbrev cX2_takeToken : ByteArray := prog_4_method_12_code
def yX2_takeToken : MethodName := ⟨RX2, "takeToken", "()V"⟩
def RX3 : String := "DialTown$Rows"
def TX3 : u_T := fun k => match k with
  | 0 => ("DialTown$Rows", "lanes", "[I", true)
  | 1 => ("DialTown$Rows", "lengths", "[I", true)
  | _ => ("DialTown$Rows", "items", "[[I", true)
def tyX3 : Nat → FieldType := fun k => match k with
  | 0 => .array .int
  | 1 => .array .int
  | _ => .array (.array .int)
theorem nmX3 : ∀ a, a < 3 → ∀ b, b < 3 → a ≠ b → (TX3 a).2.1 ≠ (TX3 b).2.1 := by decide +kernel
theorem tyX3_ok : ∀ k, k < 3 → parseFieldDescriptor (TX3 k).2.2.1 = some (tyX3 k) := by decide +kernel
abbrev cX3_init : ByteArray := prog_5_method_1_code
def yX3_init : MethodName := ⟨RX3, "<init>", "()V"⟩
abbrev cX3_isRow : ByteArray := prog_5_method_2_code
def yX3_isRow : MethodName := ⟨RX3, "isRow", "(I)Z"⟩
abbrev cX3_isMissing : ByteArray := prog_5_method_3_code
def yX3_isMissing : MethodName := ⟨RX3, "isMissing", "(I)Z"⟩
abbrev cX3_haveOneLane : ByteArray := prog_5_method_4_code
def yX3_haveOneLane : MethodName := ⟨RX3, "haveOneLane", "(II)Z"⟩
abbrev cX3_hasItems : ByteArray := prog_5_method_5_code
def yX3_hasItems : MethodName := ⟨RX3, "hasItems", "(III)Z"⟩
abbrev cX3_lay : ByteArray := prog_5_method_6_code
def yX3_lay : MethodName := ⟨RX3, "lay", "(III)V"⟩
abbrev cX3_remove : ByteArray := prog_5_method_7_code
def yX3_remove : MethodName := ⟨RX3, "remove", "(I)I"⟩
abbrev cX3_put : ByteArray := prog_5_method_8_code
def yX3_put : MethodName := ⟨RX3, "put", "(III)I"⟩
abbrev cX3_item : ByteArray := prog_5_method_9_code
def yX3_item : MethodName := ⟨RX3, "item", "(II)I"⟩
abbrev cX3_move : ByteArray := prog_5_method_10_code
def yX3_move : MethodName := ⟨RX3, "move", "(IIIII)V"⟩
abbrev cX3_present : ByteArray := prog_5_method_11_code
def yX3_present : MethodName := ⟨RX3, "present", "()I"⟩
def RX4 : String := "DialTown$Tape"
def TX4 : u_T := fun k => match k with
  | 0 => ("DialTown$Tape", "bytes", "[I", true)
  | _ => ("DialTown$Tape", "length", "I", false)
def tyX4 : Nat → FieldType := fun k => match k with
  | 0 => .array .int
  | _ => .int
theorem nmX4 : ∀ a, a < 2 → ∀ b, b < 2 → a ≠ b → (TX4 a).2.1 ≠ (TX4 b).2.1 := by decide +kernel
theorem tyX4_ok : ∀ k, k < 2 → parseFieldDescriptor (TX4 k).2.2.1 = some (tyX4 k) := by decide +kernel
abbrev cX4_init : ByteArray := prog_6_method_1_code
def yX4_init : MethodName := ⟨RX4, "<init>", "()V"⟩
abbrev cX4_hasRoomFor : ByteArray := prog_6_method_2_code
def yX4_hasRoomFor : MethodName := ⟨RX4, "hasRoomFor", "(I)Z"⟩
abbrev cX4_append : ByteArray := prog_6_method_3_code
def yX4_append : MethodName := ⟨RX4, "append", "(JI)I"⟩
abbrev cX4_clear : ByteArray := prog_6_method_4_code
def yX4_clear : MethodName := ⟨RX4, "clear", "()V"⟩
abbrev cX4_byteAt : ByteArray := prog_6_method_5_code
def yX4_byteAt : MethodName := ⟨RX4, "byteAt", "(I)I"⟩
abbrev cX4_endOfBlanks : ByteArray := prog_6_method_6_code
def yX4_endOfBlanks : MethodName := ⟨RX4, "endOfBlanks", "(I)I"⟩
abbrev cX4_endOfRun : ByteArray := prog_6_method_7_code
def yX4_endOfRun : MethodName := ⟨RX4, "endOfRun", "(III)I"⟩
abbrev cX4_numberIn : ByteArray := prog_6_method_8_code
def yX4_numberIn : MethodName := ⟨RX4, "numberIn", "(II)I"⟩
abbrev cX4_hasWord : ByteArray := prog_6_method_9_code
def yX4_hasWord : MethodName := ⟨RX4, "hasWord", "(Ljava/lang/String;II)Z"⟩
def RX5 : String := "DialTown$Town"
def TX5 : u_T := fun k => match k with
  | 0 => ("DialTown$Town", "stands", "Z", false)
  | 1 => ("DialTown$Town", "towerX", "I", false)
  | 2 => ("DialTown$Town", "towerY", "I", false)
  | 3 => ("DialTown$Town", "reach", "I", false)
  | 4 => ("DialTown$Town", "season", "I", false)
  | 5 => ("DialTown$Town", "leanEast", "I", false)
  | 6 => ("DialTown$Town", "leanNorth", "I", false)
  | 7 => ("DialTown$Town", "walls", "I", false)
  | 8 => ("DialTown$Town", "shops", "I", false)
  | 9 => ("DialTown$Town", "ground", "[I", true)
  | 10 => ("DialTown$Town", "clouds", "[I", true)
  | 11 => ("DialTown$Town", "sorts", "[I", true)
  | 12 => ("DialTown$Town", "cells", "[I", true)
  | _ => ("DialTown$Town", "rents", "[I", true)
def tyX5 : Nat → FieldType := fun k => match k with
  | 0 => .boolean
  | 1 => .int
  | 2 => .int
  | 3 => .int
  | 4 => .int
  | 5 => .int
  | 6 => .int
  | 7 => .int
  | 8 => .int
  | 9 => .array .int
  | 10 => .array .int
  | 11 => .array .int
  | 12 => .array .int
  | _ => .array .int
theorem nmX5 : ∀ a, a < 14 → ∀ b, b < 14 → a ≠ b → (TX5 a).2.1 ≠ (TX5 b).2.1 := by decide +kernel
theorem tyX5_ok : ∀ k, k < 14 → parseFieldDescriptor (TX5 k).2.2.1 = some (tyX5 k) := by decide +kernel
abbrev cX5_init : ByteArray := prog_7_method_1_code
def yX5_init : MethodName := ⟨RX5, "<init>", "()V"⟩
abbrev cX5_clear : ByteArray := prog_7_method_2_code
def yX5_clear : MethodName := ⟨RX5, "clear", "()V"⟩
abbrev cX5_become : ByteArray := prog_7_method_3_code
def yX5_become : MethodName := ⟨RX5, "become", "(LDialTown$Town;)V"⟩
abbrev cX5_raiseTower : ByteArray := prog_7_method_4_code
def yX5_raiseTower : MethodName := ⟨RX5, "raiseTower", "(III)V"⟩
abbrev cX5_addWall : ByteArray := prog_7_method_5_code
def yX5_addWall : MethodName := ⟨RX5, "addWall", "(I)V"⟩
abbrev cX5_addShop : ByteArray := prog_7_method_6_code
def yX5_addShop : MethodName := ⟨RX5, "addShop", "(III)V"⟩
abbrev cX5_removeShop : ByteArray := prog_7_method_7_code
def yX5_removeShop : MethodName := ⟨RX5, "removeShop", "()V"⟩
abbrev cX5_leanTo : ByteArray := prog_7_method_8_code
def yX5_leanTo : MethodName := ⟨RX5, "leanTo", "(II)V"⟩
abbrev cX5_clearClouds : ByteArray := prog_7_method_9_code
def yX5_clearClouds : MethodName := ⟨RX5, "clearClouds", "()V"⟩
abbrev cX5_drawClouds : ByteArray := prog_7_method_10_code
def yX5_drawClouds : MethodName := ⟨RX5, "drawClouds", "(II)V"⟩
abbrev cX5_cloudy : ByteArray := prog_7_method_11_code
def yX5_cloudy : MethodName := ⟨RX5, "cloudy", "()I"⟩
abbrev cX5_isFree : ByteArray := prog_7_method_12_code
def yX5_isFree : MethodName := ⟨RX5, "isFree", "(I)Z"⟩
abbrev cX5_isTower : ByteArray := prog_7_method_13_code
def yX5_isTower : MethodName := ⟨RX5, "isTower", "(I)Z"⟩
abbrev cX5_isWall : ByteArray := prog_7_method_14_code
def yX5_isWall : MethodName := ⟨RX5, "isWall", "(I)Z"⟩
abbrev cX5_isWalkable : ByteArray := prog_7_method_15_code
def yX5_isWalkable : MethodName := ⟨RX5, "isWalkable", "(I)Z"⟩
abbrev cX5_hasShop : ByteArray := prog_7_method_16_code
def yX5_hasShop : MethodName := ⟨RX5, "hasShop", "(I)Z"⟩
abbrev cX5_hasShops : ByteArray := prog_7_method_17_code
def yX5_hasShops : MethodName := ⟨RX5, "hasShops", "(I)Z"⟩
abbrev cX5_shopIn : ByteArray := prog_7_method_18_code
def yX5_shopIn : MethodName := ⟨RX5, "shopIn", "(I)I"⟩
abbrev cX5_kindOf : ByteArray := prog_7_method_19_code
def yX5_kindOf : MethodName := ⟨RX5, "kindOf", "(I)I"⟩
def RX6 : String := "DialTown$Walker"
def TX6 : u_T := fun k => match k with
  | 0 => ("DialTown$Walker", "queue", "[I", true)
  | 1 => ("DialTown$Walker", "far", "[[I", true)
  | 2 => ("DialTown$Walker", "opening", "[[I", true)
  | 3 => ("DialTown$Walker", "visitedBy", "[I", true)
  | 4 => ("DialTown$Walker", "cell", "I", false)
  | 5 => ("DialTown$Walker", "slot", "I", false)
  | _ => ("DialTown$Walker", "visited", "I", false)
def tyX6 : Nat → FieldType := fun k => match k with
  | 0 => .array .int
  | 1 => .array (.array .int)
  | 2 => .array (.array .int)
  | 3 => .array .int
  | 4 => .int
  | 5 => .int
  | _ => .int
theorem nmX6 : ∀ a, a < 7 → ∀ b, b < 7 → a ≠ b → (TX6 a).2.1 ≠ (TX6 b).2.1 := by decide +kernel
theorem tyX6_ok : ∀ k, k < 7 → parseFieldDescriptor (TX6 k).2.2.1 = some (tyX6 k) := by decide +kernel
abbrev cX6_init : ByteArray := prog_8_method_1_code
def yX6_init : MethodName := ⟨RX6, "<init>", "()V"⟩
abbrev cX6_start : ByteArray := prog_8_method_2_code
def yX6_start : MethodName := ⟨RX6, "start", "(LDialTown$Town;LDialTown$Dial;II)V"⟩
abbrev cX6_goes : ByteArray := prog_8_method_3_code
def yX6_goes : MethodName := ⟨RX6, "goes", "(LDialTown$Town;LDialTown$Dial;I)Z"⟩
abbrev cX6_shopsBetween : ByteArray := prog_8_method_4_code
def yX6_shopsBetween : MethodName := ⟨RX6, "shopsBetween", "(LDialTown$Town;[IIIII)I"⟩
abbrev cX6_endOfErrands : ByteArray := prog_8_method_5_code
def yX6_endOfErrands : MethodName := ⟨RX6, "endOfErrands", "(LDialTown$Town;[IIII)I"⟩
abbrev cX6_endOfSet : ByteArray := prog_8_method_6_code
def yX6_endOfSet : MethodName := ⟨RX6, "endOfSet", "(LDialTown$Town;IIII)I"⟩
abbrev cX6_openingFrom : ByteArray := prog_8_method_7_code
def yX6_openingFrom : MethodName := ⟨RX6, "openingFrom", "(II)I"⟩
abbrev cX6_tellOpenings : ByteArray := prog_8_method_8_code
def yX6_tellOpenings : MethodName := ⟨RX6, "tellOpenings", "([II)V"⟩
abbrev cX6_measure : ByteArray := prog_8_method_9_code
def yX6_measure : MethodName := ⟨RX6, "measure", "(LDialTown$Town;I[I)V"⟩
abbrev cX6_cellBeside : ByteArray := prog_8_method_10_code
def yX6_cellBeside : MethodName := ⟨RX6, "cellBeside", "(LDialTown$Town;II)I"⟩
def RX7 : String := "DialTown"
def TX7 : u_T := fun k => match k with
  | 0 => ("DialTown", "rows", "LDialTown$Rows;", true)
  | 1 => ("DialTown", "tape", "LDialTown$Tape;", true)
  | 2 => ("DialTown", "here", "LDialTown$Town;", true)
  | 3 => ("DialTown", "tried", "LDialTown$Town;", true)
  | 4 => ("DialTown", "images", "[LDialTown$Town;", true)
  | 5 => ("DialTown", "reader", "LDialTown$Reader;", true)
  | 6 => ("DialTown", "dial", "LDialTown$Dial;", true)
  | 7 => ("DialTown", "walker", "LDialTown$Walker;", true)
  | 8 => ("DialTown", "asker", "LDialTown$Asker;", true)
  | 9 => ("DialTown", "latestFault", "I", false)
  | _ => ("DialTown", "latestFinding", "I", false)
def tyX7 : Nat → FieldType := fun k => match k with
  | 0 => .object "DialTown$Rows"
  | 1 => .object "DialTown$Tape"
  | 2 => .object "DialTown$Town"
  | 3 => .object "DialTown$Town"
  | 4 => .array (.object "DialTown$Town")
  | 5 => .object "DialTown$Reader"
  | 6 => .object "DialTown$Dial"
  | 7 => .object "DialTown$Walker"
  | 8 => .object "DialTown$Asker"
  | 9 => .int
  | _ => .int
theorem nmX7 : ∀ a, a < 11 → ∀ b, b < 11 → a ≠ b → (TX7 a).2.1 ≠ (TX7 b).2.1 := by decide +kernel
theorem tyX7_ok : ∀ k, k < 11 → parseFieldDescriptor (TX7 k).2.2.1 = some (tyX7 k) := by decide +kernel
abbrev cX7_init : ByteArray := prog_1_method_1_code
def yX7_init : MethodName := ⟨RX7, "<init>", "()V"⟩
abbrev cX7_row : ByteArray := prog_1_method_2_code
def yX7_row : MethodName := ⟨RX7, "row", "(III)I"⟩
abbrev cX7_set : ByteArray := prog_1_method_3_code
def yX7_set : MethodName := ⟨RX7, "set", "(III)I"⟩
abbrev cX7_copy : ByteArray := prog_1_method_4_code
def yX7_copy : MethodName := ⟨RX7, "copy", "(IIIII)I"⟩
abbrev cX7_drop : ByteArray := prog_1_method_5_code
def yX7_drop : MethodName := ⟨RX7, "drop", "(I)I"⟩
abbrev cX7_feed : ByteArray := prog_1_method_6_code
def yX7_feed : MethodName := ⟨RX7, "feed", "(JI)I"⟩
abbrev cX7_town : ByteArray := prog_1_method_7_code
def yX7_town : MethodName := ⟨RX7, "town", "()I"⟩
abbrev cX7_fault : ByteArray := prog_1_method_8_code
def yX7_fault : MethodName := ⟨RX7, "fault", "()I"⟩
abbrev cX7_season : ByteArray := prog_1_method_9_code
def yX7_season : MethodName := ⟨RX7, "season", "(I)I"⟩
abbrev cX7_lean : ByteArray := prog_1_method_10_code
def yX7_lean : MethodName := ⟨RX7, "lean", "(II)I"⟩
abbrev cX7_cloud : ByteArray := prog_1_method_11_code
def yX7_cloud : MethodName := ⟨RX7, "cloud", "(II)I"⟩
abbrev cX7_draw : ByteArray := prog_1_method_12_code
def yX7_draw : MethodName := ⟨RX7, "draw", "(II)I"⟩
abbrev cX7_more : ByteArray := prog_1_method_13_code
def yX7_more : MethodName := ⟨RX7, "more", "(III)I"⟩
abbrev cX7_undo : ByteArray := prog_1_method_14_code
def yX7_undo : MethodName := ⟨RX7, "undo", "()I"⟩
abbrev cX7_shadow : ByteArray := prog_1_method_15_code
def yX7_shadow : MethodName := ⟨RX7, "shadow", "(II)I"⟩
abbrev cX7_open : ByteArray := prog_1_method_16_code
def yX7_open : MethodName := ⟨RX7, "open", "(I)I"⟩
abbrev cX7_shop : ByteArray := prog_1_method_17_code
def yX7_shop : MethodName := ⟨RX7, "shop", "(II)I"⟩
abbrev cX7_soonest : ByteArray := prog_1_method_18_code
def yX7_soonest : MethodName := ⟨RX7, "soonest", "(III)I"⟩
abbrev cX7_check : ByteArray := prog_1_method_19_code
def yX7_check : MethodName := ⟨RX7, "check", "(IIIIII)I"⟩
abbrev cX7_thief : ByteArray := prog_1_method_20_code
def yX7_thief : MethodName := ⟨RX7, "thief", "(IIII)I"⟩
abbrev cX7_longest : ByteArray := prog_1_method_21_code
def yX7_longest : MethodName := ⟨RX7, "longest", "(II)I"⟩
abbrev cX7_bills : ByteArray := prog_1_method_22_code
def yX7_bills : MethodName := ⟨RX7, "bills", "(II)I"⟩
abbrev cX7_leans : ByteArray := prog_1_method_23_code
def yX7_leans : MethodName := ⟨RX7, "leans", "(III)I"⟩
abbrev cX7_image : ByteArray := prog_1_method_24_code
def yX7_image : MethodName := ⟨RX7, "image", "(I)I"⟩
abbrev cX7_restore : ByteArray := prog_1_method_25_code
def yX7_restore : MethodName := ⟨RX7, "restore", "(I)I"⟩
abbrev cX7_kind : ByteArray := prog_1_method_26_code
def yX7_kind : MethodName := ⟨RX7, "kind", "(I)I"⟩
abbrev cX7_as : ByteArray := prog_1_method_27_code
def yX7_as : MethodName := ⟨RX7, "as", "(II)I"⟩
abbrev cX7_ask : ByteArray := prog_1_method_28_code
def yX7_ask : MethodName := ⟨RX7, "ask", "(II)I"⟩
abbrev cX7_trace : ByteArray := prog_1_method_29_code
def yX7_trace : MethodName := ⟨RX7, "trace", "(I)I"⟩
abbrev cX7_count : ByteArray := prog_1_method_30_code
def yX7_count : MethodName := ⟨RX7, "count", "(I)I"⟩
abbrev cX7_status : ByteArray := prog_1_method_31_code
def yX7_status : MethodName := ⟨RX7, "status", "()I"⟩
abbrev cX7_found : ByteArray := prog_1_method_32_code
def yX7_found : MethodName := ⟨RX7, "found", "(I)I"⟩
abbrev cX7_fine : ByteArray := prog_1_method_33_code
def yX7_fine : MethodName := ⟨RX7, "fine", "(I)I"⟩
abbrev cX7_openSlotsOfYear : ByteArray := prog_1_method_34_code
def yX7_openSlotsOfYear : MethodName := ⟨RX7, "openSlotsOfYear", "(I)I"⟩
abbrev cX7_isSlot : ByteArray := prog_1_method_35_code
def yX7_isSlot : MethodName := ⟨RX7, "isSlot", "(I)Z"⟩
abbrev cX7_isCell : ByteArray := prog_1_method_36_code
def yX7_isCell : MethodName := ⟨RX7, "isCell", "(I)Z"⟩
abbrev cX7_isSort : ByteArray := prog_1_method_37_code
def yX7_isSort : MethodName := ⟨RX7, "isSort", "(I)Z"⟩
abbrev cX7_isLean : ByteArray := prog_1_method_38_code
def yX7_isLean : MethodName := ⟨RX7, "isLean", "(I)Z"⟩
abbrev cX7_cellAt : ByteArray := prog_1_method_39_code
def yX7_cellAt : MethodName := ⟨RX7, "cellAt", "(II)I"⟩
def RX8 : String := "DialTownModel"
def TX8 : u_T := fun k => match k with
  | 0 => ("DialTownModel", "thrown", "I", false)
  | 1 => ("DialTownModel", "status", "I", false)
  | 2 => ("DialTownModel", "lane", "[I", true)
  | 3 => ("DialTownModel", "many", "[I", true)
  | 4 => ("DialTownModel", "item", "[I", true)
  | 5 => ("DialTownModel", "town", "[I", true)
  | 6 => ("DialTownModel", "fresh", "[I", true)
  | 7 => ("DialTownModel", "tape", "[I", true)
  | 8 => ("DialTownModel", "taped", "I", false)
  | 9 => ("DialTownModel", "latest", "I", false)
  | 10 => ("DialTownModel", "length", "I", false)
  | 11 => ("DialTownModel", "cursor", "I", false)
  | 12 => ("DialTownModel", "token", "I", false)
  | 13 => ("DialTownModel", "start", "I", false)
  | 14 => ("DialTownModel", "till", "I", false)
  | 15 => ("DialTownModel", "fault", "I", false)
  | 16 => ("DialTownModel", "faultAt", "I", false)
  | 17 => ("DialTownModel", "dark", "[Z", true)
  | 18 => ("DialTownModel", "is", "[Z", true)
  | 19 => ("DialTownModel", "then", "[Z", true)
  | 20 => ("DialTownModel", "from", "[Z", true)
  | 21 => ("DialTownModel", "to", "[Z", true)
  | 22 => ("DialTownModel", "slots", "[I", true)
  | 23 => ("DialTownModel", "isKept", "[Z", true)
  | 24 => ("DialTownModel", "kept", "[I", true)
  | 25 => ("DialTownModel", "trace", "[I", true)
  | _ => ("DialTownModel", "traced", "I", false)
def tyX8 : Nat → FieldType := fun k => match k with
  | 0 => .int
  | 1 => .int
  | 2 => .array .int
  | 3 => .array .int
  | 4 => .array .int
  | 5 => .array .int
  | 6 => .array .int
  | 7 => .array .int
  | 8 => .int
  | 9 => .int
  | 10 => .int
  | 11 => .int
  | 12 => .int
  | 13 => .int
  | 14 => .int
  | 15 => .int
  | 16 => .int
  | 17 => .array .boolean
  | 18 => .array .boolean
  | 19 => .array .boolean
  | 20 => .array .boolean
  | 21 => .array .boolean
  | 22 => .array .int
  | 23 => .array .boolean
  | 24 => .array .int
  | 25 => .array .int
  | _ => .int
theorem nmX8 : ∀ a, a < 27 → ∀ b, b < 27 → a ≠ b → (TX8 a).2.1 ≠ (TX8 b).2.1 := by decide +kernel
theorem tyX8_ok : ∀ k, k < 27 → parseFieldDescriptor (TX8 k).2.2.1 = some (tyX8 k) := by decide +kernel
abbrev cX8_init : ByteArray := prog_10_method_1_code
def yX8_init : MethodName := ⟨RX8, "<init>", "()V"⟩
abbrev cX8_in : ByteArray := prog_10_method_3_code
def yX8_in : MethodName := ⟨RX8, "in", "(JJJ)Z"⟩
abbrev cX8_finding : ByteArray := prog_10_method_4_code
def yX8_finding : MethodName := ⟨RX8, "finding", "(I)I"⟩
abbrev cX8_isRow : ByteArray := prog_10_method_5_code
def yX8_isRow : MethodName := ⟨RX8, "isRow", "(I)Z"⟩
abbrev cX8_row : ByteArray := prog_10_method_6_code
def yX8_row : MethodName := ⟨RX8, "row", "(III)I"⟩
abbrev cX8_set : ByteArray := prog_10_method_7_code
def yX8_set : MethodName := ⟨RX8, "set", "(III)I"⟩
abbrev cX8_copy : ByteArray := prog_10_method_8_code
def yX8_copy : MethodName := ⟨RX8, "copy", "(IIIII)I"⟩
abbrev cX8_drop : ByteArray := prog_10_method_9_code
def yX8_drop : MethodName := ⟨RX8, "drop", "(I)I"⟩
abbrev cX8_feed : ByteArray := prog_10_method_10_code
def yX8_feed : MethodName := ⟨RX8, "feed", "(JI)I"⟩
abbrev cX8_byteAt : ByteArray := prog_10_method_11_code
def yX8_byteAt : MethodName := ⟨RX8, "byteAt", "(I)I"⟩
abbrev cX8_isLetter : ByteArray := prog_10_method_12_code
def yX8_isLetter : MethodName := ⟨RX8, "isLetter", "(I)Z"⟩
abbrev cX8_isFigure : ByteArray := prog_10_method_13_code
def yX8_isFigure : MethodName := ⟨RX8, "isFigure", "(I)Z"⟩
abbrev cX8_next : ByteArray := prog_10_method_14_code
def yX8_next : MethodName := ⟨RX8, "next", "()V"⟩
abbrev cX8_begin : ByteArray := prog_10_method_15_code
def yX8_begin : MethodName := ⟨RX8, "begin", "()V"⟩
abbrev cX8_bad : ByteArray := prog_10_method_16_code
def yX8_bad : MethodName := ⟨RX8, "bad", "(I)V"⟩
abbrev cX8_must : ByteArray := prog_10_method_17_code
def yX8_must : MethodName := ⟨RX8, "must", "(Z)V"⟩
abbrev cX8_name : ByteArray := prog_10_method_18_code
def yX8_name : MethodName := ⟨RX8, "name", "()J"⟩
abbrev cX8_figures : ByteArray := prog_10_method_19_code
def yX8_figures : MethodName := ⟨RX8, "figures", "()I"⟩
abbrev cX8_number : ByteArray := prog_10_method_20_code
def yX8_number : MethodName := ⟨RX8, "number", "(II)I"⟩
abbrev cX8_kindBy : ByteArray := prog_10_method_21_code
def yX8_kindBy : MethodName := ⟨RX8, "kindBy", "(J)I"⟩
abbrev cX8_mustEnd : ByteArray := prog_10_method_22_code
def yX8_mustEnd : MethodName := ⟨RX8, "mustEnd", "()V"⟩
abbrev cX8_begins : ByteArray := prog_10_method_23_code
def yX8_begins : MethodName := ⟨RX8, "begins", "(II)V"⟩
abbrev cX8_isFreeOf : ByteArray := prog_10_method_24_code
def yX8_isFreeOf : MethodName := ⟨RX8, "isFreeOf", "([II)Z"⟩
abbrev cX8_readTower : ByteArray := prog_10_method_25_code
def yX8_readTower : MethodName := ⟨RX8, "readTower", "()V"⟩
abbrev cX8_readWall : ByteArray := prog_10_method_26_code
def yX8_readWall : MethodName := ⟨RX8, "readWall", "()V"⟩
abbrev cX8_readShop : ByteArray := prog_10_method_27_code
def yX8_readShop : MethodName := ⟨RX8, "readShop", "()V"⟩
abbrev cX8_town : ByteArray := prog_10_method_28_code
def yX8_town : MethodName := ⟨RX8, "town", "()I"⟩
abbrev cX8_fault : ByteArray := prog_10_method_29_code
def yX8_fault : MethodName := ⟨RX8, "fault", "()I"⟩
abbrev cX8_isThere : ByteArray := prog_10_method_30_code
def yX8_isThere : MethodName := ⟨RX8, "isThere", "()Z"⟩
abbrev cX8_isSlot : ByteArray := prog_10_method_31_code
def yX8_isSlot : MethodName := ⟨RX8, "isSlot", "(I)Z"⟩
abbrev cX8_isCell : ByteArray := prog_10_method_32_code
def yX8_isCell : MethodName := ⟨RX8, "isCell", "(I)Z"⟩
abbrev cX8_isLean : ByteArray := prog_10_method_33_code
def yX8_isLean : MethodName := ⟨RX8, "isLean", "(I)Z"⟩
abbrev cX8_isShop : ByteArray := prog_10_method_34_code
def yX8_isShop : MethodName := ⟨RX8, "isShop", "(I)Z"⟩
abbrev cX8_season : ByteArray := prog_10_method_35_code
def yX8_season : MethodName := ⟨RX8, "season", "(I)I"⟩
abbrev cX8_lean : ByteArray := prog_10_method_36_code
def yX8_lean : MethodName := ⟨RX8, "lean", "(II)I"⟩
abbrev cX8_cloud : ByteArray := prog_10_method_37_code
def yX8_cloud : MethodName := ⟨RX8, "cloud", "(II)I"⟩
abbrev cX8_clouds : ByteArray := prog_10_method_38_code
def yX8_clouds : MethodName := ⟨RX8, "clouds", "()I"⟩
abbrev cX8_draw : ByteArray := prog_10_method_39_code
def yX8_draw : MethodName := ⟨RX8, "draw", "(II)I"⟩
abbrev cX8_kindOfSort : ByteArray := prog_10_method_40_code
def yX8_kindOfSort : MethodName := ⟨RX8, "kindOfSort", "(I)I"⟩
abbrev cX8_more : ByteArray := prog_10_method_41_code
def yX8_more : MethodName := ⟨RX8, "more", "(III)I"⟩
abbrev cX8_undo : ByteArray := prog_10_method_42_code
def yX8_undo : MethodName := ⟨RX8, "undo", "()I"⟩
abbrev cX8_sizeOf : ByteArray := prog_10_method_43_code
def yX8_sizeOf : MethodName := ⟨RX8, "sizeOf", "(I)I"⟩
abbrev cX8_layShadow : ByteArray := prog_10_method_44_code
def yX8_layShadow : MethodName := ⟨RX8, "layShadow", "(IIII)V"⟩
abbrev cX8_layNow : ByteArray := prog_10_method_45_code
def yX8_layNow : MethodName := ⟨RX8, "layNow", "(I)V"⟩
abbrev cX8_shadow : ByteArray := prog_10_method_46_code
def yX8_shadow : MethodName := ⟨RX8, "shadow", "(II)I"⟩
abbrev cX8_isOpen : ByteArray := prog_10_method_47_code
def yX8_isOpen : MethodName := ⟨RX8, "isOpen", "(III)Z"⟩
abbrev cX8_kind0 : ByteArray := prog_10_method_48_code
def yX8_kind0 : MethodName := ⟨RX8, "kind0", "(I)I"⟩
abbrev cX8_cellOf : ByteArray := prog_10_method_49_code
def yX8_cellOf : MethodName := ⟨RX8, "cellOf", "(I)I"⟩
abbrev cX8_openBy : ByteArray := prog_10_method_50_code
def yX8_openBy : MethodName := ⟨RX8, "openBy", "(I)I"⟩
abbrev cX8_openAt : ByteArray := prog_10_method_51_code
def yX8_openAt : MethodName := ⟨RX8, "openAt", "(I)I"⟩
abbrev cX8_open : ByteArray := prog_10_method_52_code
def yX8_open : MethodName := ⟨RX8, "open", "(I)I"⟩
abbrev cX8_slotsOf : ByteArray := prog_10_method_53_code
def yX8_slotsOf : MethodName := ⟨RX8, "slotsOf", "(IIIIZ)I"⟩
abbrev cX8_slotsNow : ByteArray := prog_10_method_54_code
def yX8_slotsNow : MethodName := ⟨RX8, "slotsNow", "(I)I"⟩
abbrev cX8_shop : ByteArray := prog_10_method_55_code
def yX8_shop : MethodName := ⟨RX8, "shop", "(II)I"⟩
abbrev cX8_nextCell : ByteArray := prog_10_method_56_code
def yX8_nextCell : MethodName := ⟨RX8, "nextCell", "(II)I"⟩
abbrev cX8_mayBe : ByteArray := prog_10_method_57_code
def yX8_mayBe : MethodName := ⟨RX8, "mayBe", "(I)Z"⟩
abbrev cX8_shopsAt : ByteArray := prog_10_method_58_code
def yX8_shopsAt : MethodName := ⟨RX8, "shopsAt", "(I)I"⟩
abbrev cX8_goOn : ByteArray := prog_10_method_59_code
def yX8_goOn : MethodName := ⟨RX8, "goOn", "(II)Z"⟩
abbrev cX8_soonest : ByteArray := prog_10_method_60_code
def yX8_soonest : MethodName := ⟨RX8, "soonest", "(III)I"⟩
abbrev cX8_lack : ByteArray := prog_10_method_61_code
def yX8_lack : MethodName := ⟨RX8, "lack", "(III)I"⟩
abbrev cX8_check : ByteArray := prog_10_method_62_code
def yX8_check : MethodName := ⟨RX8, "check", "(IIIIII)I"⟩
abbrev cX8_spread : ByteArray := prog_10_method_63_code
def yX8_spread : MethodName := ⟨RX8, "spread", "([ZII)V"⟩
abbrev cX8_thief : ByteArray := prog_10_method_64_code
def yX8_thief : MethodName := ⟨RX8, "thief", "(IIII)I"⟩
abbrev cX8_longest : ByteArray := prog_10_method_65_code
def yX8_longest : MethodName := ⟨RX8, "longest", "(II)I"⟩
abbrev cX8_bills : ByteArray := prog_10_method_66_code
def yX8_bills : MethodName := ⟨RX8, "bills", "(II)I"⟩
abbrev cX8_leans : ByteArray := prog_10_method_67_code
def yX8_leans : MethodName := ⟨RX8, "leans", "(III)I"⟩
abbrev cX8_image : ByteArray := prog_10_method_68_code
def yX8_image : MethodName := ⟨RX8, "image", "(I)I"⟩
abbrev cX8_restore : ByteArray := prog_10_method_69_code
def yX8_restore : MethodName := ⟨RX8, "restore", "(I)I"⟩
abbrev cX8_isOf : ByteArray := prog_10_method_70_code
def yX8_isOf : MethodName := ⟨RX8, "isOf", "(II)Z"⟩
abbrev cX8_kind : ByteArray := prog_10_method_71_code
def yX8_kind : MethodName := ⟨RX8, "kind", "(I)I"⟩
abbrev cX8_as : ByteArray := prog_10_method_72_code
def yX8_as : MethodName := ⟨RX8, "as", "(II)I"⟩
abbrev cX8_began : ByteArray := prog_10_method_73_code
def yX8_began : MethodName := ⟨RX8, "began", "(I)V"⟩
abbrev cX8_plainSize : ByteArray := prog_10_method_74_code
def yX8_plainSize : MethodName := ⟨RX8, "plainSize", "(I)I"⟩
abbrev cX8_sunnySize : ByteArray := prog_10_method_75_code
def yX8_sunnySize : MethodName := ⟨RX8, "sunnySize", "(I)I"⟩
abbrev cX8_markOf : ByteArray := prog_10_method_76_code
def yX8_markOf : MethodName := ⟨RX8, "markOf", "(I)I"⟩
abbrev cX8_askSize : ByteArray := prog_10_method_77_code
def yX8_askSize : MethodName := ⟨RX8, "askSize", "(I)I"⟩
abbrev cX8_ask : ByteArray := prog_10_method_78_code
def yX8_ask : MethodName := ⟨RX8, "ask", "(II)I"⟩
abbrev cX8_trace : ByteArray := prog_10_method_79_code
def yX8_trace : MethodName := ⟨RX8, "trace", "(I)I"⟩
abbrev cX8_count : ByteArray := prog_10_method_80_code
def yX8_count : MethodName := ⟨RX8, "count", "(I)I"⟩
abbrev cX8_status : ByteArray := prog_10_method_81_code
def yX8_status : MethodName := ⟨RX8, "status", "()I"⟩
def RJ9 : String := "java/lang/Math"
abbrev cJ9_abs_0f7a4 : ByteArray := prog_11_method_59_code
def yJ9_abs_0f7a4 : MethodName := ⟨RJ9, "abs", "(I)I"⟩
abbrev cJ9_max_7cf53 : ByteArray := prog_11_method_65_code
def yJ9_max_7cf53 : MethodName := ⟨RJ9, "max", "(II)I"⟩
abbrev cJ9_min_7cf53 : ByteArray := prog_11_method_69_code
def yJ9_min_7cf53 : MethodName := ⟨RJ9, "min", "(II)I"⟩
def RJ0 : String := "java/lang/String"
abbrev cJ0_length_8abf5 : ByteArray := prog_12_method_54_code
def yJ0_length_8abf5 : MethodName := ⟨RJ0, "length", "()I"⟩
abbrev cJ0_charAt_5068e : ByteArray := prog_12_method_56_code
def yJ0_charAt_5068e : MethodName := ⟨RJ0, "charAt", "(I)C"⟩
abbrev cJ0_coder_7d493 : ByteArray := prog_12_method_152_code
def yJ0_coder_7d493 : MethodName := ⟨RJ0, "coder", "()B"⟩
abbrev cJ0_isLatin1_aae02 : ByteArray := prog_12_method_154_code
def yJ0_isLatin1_aae02 : MethodName := ⟨RJ0, "isLatin1", "()Z"⟩
abbrev cJ0_checkIndex_df160 : ByteArray := prog_12_method_155_code
def yJ0_checkIndex_df160 : MethodName := ⟨RJ0, "checkIndex", "(II)V"⟩
def RJ1 : String := "java/lang/StringLatin1"
abbrev cJ1_charAt_3b067 : ByteArray := prog_13_method_2_code
def yJ1_charAt_3b067 : MethodName := ⟨RJ1, "charAt", "([BI)C"⟩
def RJ2 : String := "java/lang/StringUTF16"
abbrev cJ2_getChar_3b067 : ByteArray := prog_14_method_5_code
def yJ2_getChar_3b067 : MethodName := ⟨RJ2, "getChar", "([BI)C"⟩
abbrev cJ2_length_9d52b : ByteArray := prog_14_method_6_code
def yJ2_length_9d52b : MethodName := ⟨RJ2, "length", "([B)I"⟩
abbrev cJ2_charAt_3b067 : ByteArray := prog_14_method_83_code
def yJ2_charAt_3b067 : MethodName := ⟨RJ2, "charAt", "([BI)C"⟩
abbrev cJ2_checkIndex_2214a : ByteArray := prog_14_method_91_code
def yJ2_checkIndex_2214a : MethodName := ⟨RJ2, "checkIndex", "(I[B)V"⟩
def RJ10 : String := "java/lang/System"
def RJ7 : String := "java/util/Arrays"
abbrev cJ7_fill_53178 : ByteArray := prog_16_method_103_code
def yJ7_fill_53178 : MethodName := ⟨RJ7, "fill", "([II)V"⟩
def RJ3 : String := "jdk/internal/util/Preconditions"
abbrev cJ3_checkIndex_8e157 : ByteArray := prog_17_method_11_code
def yJ3_checkIndex_8e157 : MethodName := ⟨RJ3, "checkIndex", "(IILjava/util/function/BiFunction;)I"⟩
def RL : String := "DialTownLaw"
abbrev cL_law : ByteArray := code
abbrev vwCl : List vw_C := [(RX0, TX0, 2), (RX1, TX1, 4), (RX2, TX2, 9), (RX3, TX3, 3), (RX4, TX4, 2), (RX5, TX5, 14), (RX6, TX6, 7), (RX7, TX7, 11), (RX8, TX8, 27)]

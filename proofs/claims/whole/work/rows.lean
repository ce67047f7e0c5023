section
-- ===== PART A: goes FIRST, ahead of the names: the tables' words, and 'selects' of the private methods out of them =====
/-- a private method of a class that the tables say can be made, by its rows of tables_1 -/
def lw_okq (q : MethodName × Nat) : Prop := (q.1.cls ≠ "java/lang/invoke/MethodHandle" ∧ q.1.cls ≠ "java/lang/invoke/VarHandle") ∧ Cond.instantiable q.1.cls q.2 ∈ tables_1 ∧ Cond.privateMethod q.1 ∈ tables_1 ∧ Cond.instanceMethod q.1 ∈ tables_1
theorem lw_p0 : lw_okq (⟨"DialTown", "found", "(I)I"⟩, 11) := ⟨⟨by decide +kernel, by decide +kernel⟩, List.mem_of_getElem? (i := 18) (by decide +kernel), List.mem_of_getElem? (i := 275) (by decide +kernel), List.mem_of_getElem? (i := 276) (by decide +kernel)⟩
theorem lw_p1 : lw_okq (⟨"DialTown", "fine", "(I)I"⟩, 11) := ⟨⟨by decide +kernel, by decide +kernel⟩, List.mem_of_getElem? (i := 18) (by decide +kernel), List.mem_of_getElem? (i := 287) (by decide +kernel), List.mem_of_getElem? (i := 288) (by decide +kernel)⟩
theorem lw_p2 : lw_okq (⟨"DialTown$Reader", "readsTower", "()Z"⟩, 9) := ⟨⟨by decide +kernel, by decide +kernel⟩, List.mem_of_getElem? (i := 131) (by decide +kernel), List.mem_of_getElem? (i := 364) (by decide +kernel), List.mem_of_getElem? (i := 365) (by decide +kernel)⟩
theorem lw_p3 : lw_okq (⟨"DialTown$Reader", "takeToken", "()V"⟩, 9) := ⟨⟨by decide +kernel, by decide +kernel⟩, List.mem_of_getElem? (i := 131) (by decide +kernel), List.mem_of_getElem? (i := 368) (by decide +kernel), List.mem_of_getElem? (i := 369) (by decide +kernel)⟩
theorem lw_p4 : lw_okq (⟨"DialTown$Reader", "isWord", "(Ljava/lang/String;)Z"⟩, 9) := ⟨⟨by decide +kernel, by decide +kernel⟩, List.mem_of_getElem? (i := 131) (by decide +kernel), List.mem_of_getElem? (i := 389) (by decide +kernel), List.mem_of_getElem? (i := 390) (by decide +kernel)⟩
theorem lw_p5 : lw_okq (⟨"DialTown$Reader", "fails", "(I)Z"⟩, 9) := ⟨⟨by decide +kernel, by decide +kernel⟩, List.mem_of_getElem? (i := 131) (by decide +kernel), List.mem_of_getElem? (i := 446) (by decide +kernel), List.mem_of_getElem? (i := 447) (by decide +kernel)⟩
theorem lw_p6 : lw_okq (⟨"DialTown$Reader", "readsNumber", "(II)Z"⟩, 9) := ⟨⟨by decide +kernel, by decide +kernel⟩, List.mem_of_getElem? (i := 131) (by decide +kernel), List.mem_of_getElem? (i := 450) (by decide +kernel), List.mem_of_getElem? (i := 451) (by decide +kernel)⟩
theorem lw_p7 : lw_okq (⟨"DialTown$Reader", "readsSign", "()Z"⟩, 9) := ⟨⟨by decide +kernel, by decide +kernel⟩, List.mem_of_getElem? (i := 131) (by decide +kernel), List.mem_of_getElem? (i := 463) (by decide +kernel), List.mem_of_getElem? (i := 464) (by decide +kernel)⟩
theorem lw_p8 : lw_okq (⟨"DialTown$Reader", "readsWall", "()Z"⟩, 9) := ⟨⟨by decide +kernel, by decide +kernel⟩, List.mem_of_getElem? (i := 131) (by decide +kernel), List.mem_of_getElem? (i := 468) (by decide +kernel), List.mem_of_getElem? (i := 469) (by decide +kernel)⟩
theorem lw_p9 : lw_okq (⟨"DialTown$Reader", "readCell", "()I"⟩, 9) := ⟨⟨by decide +kernel, by decide +kernel⟩, List.mem_of_getElem? (i := 131) (by decide +kernel), List.mem_of_getElem? (i := 472) (by decide +kernel), List.mem_of_getElem? (i := 473) (by decide +kernel)⟩
theorem lw_p10 : lw_okq (⟨"DialTown$Reader", "readsShop", "()Z"⟩, 9) := ⟨⟨by decide +kernel, by decide +kernel⟩, List.mem_of_getElem? (i := 131) (by decide +kernel), List.mem_of_getElem? (i := 487) (by decide +kernel), List.mem_of_getElem? (i := 488) (by decide +kernel)⟩
theorem lw_p11 : lw_okq (⟨"DialTown$Reader", "sortTold", "()I"⟩, 9) := ⟨⟨by decide +kernel, by decide +kernel⟩, List.mem_of_getElem? (i := 131) (by decide +kernel), List.mem_of_getElem? (i := 491) (by decide +kernel), List.mem_of_getElem? (i := 492) (by decide +kernel)⟩
theorem lw_p12 : lw_okq (⟨"DialTown$Dial", "isOpen", "(III)Z"⟩, 4) := ⟨⟨by decide +kernel, by decide +kernel⟩, List.mem_of_getElem? (i := 167) (by decide +kernel), List.mem_of_getElem? (i := 613) (by decide +kernel), List.mem_of_getElem? (i := 614) (by decide +kernel)⟩
theorem lw_p13 : lw_okq (⟨"DialTown", "openSlotsOfYear", "(I)I"⟩, 11) := ⟨⟨by decide +kernel, by decide +kernel⟩, List.mem_of_getElem? (i := 18) (by decide +kernel), List.mem_of_getElem? (i := 631) (by decide +kernel), List.mem_of_getElem? (i := 632) (by decide +kernel)⟩
theorem lw_p14 : lw_okq (⟨"DialTown$Walker", "measure", "(LDialTown$Town;I[I)V"⟩, 7) := ⟨⟨by decide +kernel, by decide +kernel⟩, List.mem_of_getElem? (i := 188) (by decide +kernel), List.mem_of_getElem? (i := 658) (by decide +kernel), List.mem_of_getElem? (i := 659) (by decide +kernel)⟩
theorem lw_p15 : lw_okq (⟨"DialTown$Walker", "tellOpenings", "([II)V"⟩, 7) := ⟨⟨by decide +kernel, by decide +kernel⟩, List.mem_of_getElem? (i := 188) (by decide +kernel), List.mem_of_getElem? (i := 673) (by decide +kernel), List.mem_of_getElem? (i := 674) (by decide +kernel)⟩
def lw_privs_1 : List (MethodName × Nat) := [(⟨"DialTown", "found", "(I)I"⟩, 11), (⟨"DialTown", "fine", "(I)I"⟩, 11), (⟨"DialTown$Reader", "readsTower", "()Z"⟩, 9), (⟨"DialTown$Reader", "takeToken", "()V"⟩, 9), (⟨"DialTown$Reader", "isWord", "(Ljava/lang/String;)Z"⟩, 9), (⟨"DialTown$Reader", "fails", "(I)Z"⟩, 9), (⟨"DialTown$Reader", "readsNumber", "(II)Z"⟩, 9), (⟨"DialTown$Reader", "readsSign", "()Z"⟩, 9), (⟨"DialTown$Reader", "readsWall", "()Z"⟩, 9), (⟨"DialTown$Reader", "readCell", "()I"⟩, 9), (⟨"DialTown$Reader", "readsShop", "()Z"⟩, 9), (⟨"DialTown$Reader", "sortTold", "()I"⟩, 9), (⟨"DialTown$Dial", "isOpen", "(III)Z"⟩, 4), (⟨"DialTown", "openSlotsOfYear", "(I)I"⟩, 11), (⟨"DialTown$Walker", "measure", "(LDialTown$Town;I[I)V"⟩, 7), (⟨"DialTown$Walker", "tellOpenings", "([II)V"⟩, 7)]
theorem lw_r1 : ∀ q ∈ lw_privs_1, lw_okq q := List.forall_mem_cons.mpr ⟨lw_p0, List.forall_mem_cons.mpr ⟨lw_p1, List.forall_mem_cons.mpr ⟨lw_p2, List.forall_mem_cons.mpr ⟨lw_p3, List.forall_mem_cons.mpr ⟨lw_p4, List.forall_mem_cons.mpr ⟨lw_p5, List.forall_mem_cons.mpr ⟨lw_p6, List.forall_mem_cons.mpr ⟨lw_p7, List.forall_mem_cons.mpr ⟨lw_p8, List.forall_mem_cons.mpr ⟨lw_p9, List.forall_mem_cons.mpr ⟨lw_p10, List.forall_mem_cons.mpr ⟨lw_p11, List.forall_mem_cons.mpr ⟨lw_p12, List.forall_mem_cons.mpr ⟨lw_p13, List.forall_mem_cons.mpr ⟨lw_p14, List.forall_mem_cons.mpr ⟨lw_p15, fun _ h => absurd h List.not_mem_nil⟩⟩⟩⟩⟩⟩⟩⟩⟩⟩⟩⟩⟩⟩⟩⟩
theorem lw_p16 : lw_okq (⟨"DialTown$Walker", "endOfSet", "(LDialTown$Town;IIII)I"⟩, 7) := ⟨⟨by decide +kernel, by decide +kernel⟩, List.mem_of_getElem? (i := 188) (by decide +kernel), List.mem_of_getElem? (i := 677) (by decide +kernel), List.mem_of_getElem? (i := 678) (by decide +kernel)⟩
theorem lw_p17 : lw_okq (⟨"DialTown$Walker", "openingFrom", "(II)I"⟩, 7) := ⟨⟨by decide +kernel, by decide +kernel⟩, List.mem_of_getElem? (i := 188) (by decide +kernel), List.mem_of_getElem? (i := 681) (by decide +kernel), List.mem_of_getElem? (i := 682) (by decide +kernel)⟩
theorem lw_p18 : lw_okq (⟨"DialTown$Dial", "countHours", "(LDialTown$Town;I)V"⟩, 4) := ⟨⟨by decide +kernel, by decide +kernel⟩, List.mem_of_getElem? (i := 167) (by decide +kernel), List.mem_of_getElem? (i := 725) (by decide +kernel), List.mem_of_getElem? (i := 726) (by decide +kernel)⟩
theorem lw_p19 : lw_okq (⟨"DialTown$Asker", "begin", "(LDialTown$Town;III)I"⟩, 2) := ⟨⟨by decide +kernel, by decide +kernel⟩, List.mem_of_getElem? (i := 218) (by decide +kernel), List.mem_of_getElem? (i := 779) (by decide +kernel), List.mem_of_getElem? (i := 780) (by decide +kernel)⟩
theorem lw_p20 : lw_okq (⟨"DialTown$Asker", "note", "(I)V"⟩, 2) := ⟨⟨by decide +kernel, by decide +kernel⟩, List.mem_of_getElem? (i := 218) (by decide +kernel), List.mem_of_getElem? (i := 783) (by decide +kernel), List.mem_of_getElem? (i := 784) (by decide +kernel)⟩
theorem lw_p21 : lw_okq (⟨"DialTownModel", "finding", "(I)I"⟩, 27) := ⟨⟨by decide +kernel, by decide +kernel⟩, List.mem_of_getElem? (i := 803) (by decide +kernel), List.mem_of_getElem? (i := 905) (by decide +kernel), List.mem_of_getElem? (i := 906) (by decide +kernel)⟩
theorem lw_p22 : lw_okq (⟨"DialTownModel", "begin", "()V"⟩, 27) := ⟨⟨by decide +kernel, by decide +kernel⟩, List.mem_of_getElem? (i := 803) (by decide +kernel), List.mem_of_getElem? (i := 933) (by decide +kernel), List.mem_of_getElem? (i := 934) (by decide +kernel)⟩
theorem lw_p23 : lw_okq (⟨"DialTownModel", "next", "()V"⟩, 27) := ⟨⟨by decide +kernel, by decide +kernel⟩, List.mem_of_getElem? (i := 803) (by decide +kernel), List.mem_of_getElem? (i := 937) (by decide +kernel), List.mem_of_getElem? (i := 938) (by decide +kernel)⟩
theorem lw_p24 : lw_okq (⟨"DialTownModel", "byteAt", "(I)I"⟩, 27) := ⟨⟨by decide +kernel, by decide +kernel⟩, List.mem_of_getElem? (i := 803) (by decide +kernel), List.mem_of_getElem? (i := 941) (by decide +kernel), List.mem_of_getElem? (i := 942) (by decide +kernel)⟩
theorem lw_p25 : lw_okq (⟨"DialTownModel", "readTower", "()V"⟩, 27) := ⟨⟨by decide +kernel, by decide +kernel⟩, List.mem_of_getElem? (i := 803) (by decide +kernel), List.mem_of_getElem? (i := 952) (by decide +kernel), List.mem_of_getElem? (i := 953) (by decide +kernel)⟩
theorem lw_p26 : lw_okq (⟨"DialTownModel", "name", "()J"⟩, 27) := ⟨⟨by decide +kernel, by decide +kernel⟩, List.mem_of_getElem? (i := 803) (by decide +kernel), List.mem_of_getElem? (i := 956) (by decide +kernel), List.mem_of_getElem? (i := 957) (by decide +kernel)⟩
theorem lw_p27 : lw_okq (⟨"DialTownModel", "must", "(Z)V"⟩, 27) := ⟨⟨by decide +kernel, by decide +kernel⟩, List.mem_of_getElem? (i := 803) (by decide +kernel), List.mem_of_getElem? (i := 961) (by decide +kernel), List.mem_of_getElem? (i := 962) (by decide +kernel)⟩
theorem lw_p28 : lw_okq (⟨"DialTownModel", "bad", "(I)V"⟩, 27) := ⟨⟨by decide +kernel, by decide +kernel⟩, List.mem_of_getElem? (i := 803) (by decide +kernel), List.mem_of_getElem? (i := 965) (by decide +kernel), List.mem_of_getElem? (i := 966) (by decide +kernel)⟩
theorem lw_p29 : lw_okq (⟨"DialTownModel", "number", "(II)I"⟩, 27) := ⟨⟨by decide +kernel, by decide +kernel⟩, List.mem_of_getElem? (i := 803) (by decide +kernel), List.mem_of_getElem? (i := 969) (by decide +kernel), List.mem_of_getElem? (i := 970) (by decide +kernel)⟩
theorem lw_p30 : lw_okq (⟨"DialTownModel", "figures", "()I"⟩, 27) := ⟨⟨by decide +kernel, by decide +kernel⟩, List.mem_of_getElem? (i := 803) (by decide +kernel), List.mem_of_getElem? (i := 973) (by decide +kernel), List.mem_of_getElem? (i := 974) (by decide +kernel)⟩
theorem lw_p31 : lw_okq (⟨"DialTownModel", "mustEnd", "()V"⟩, 27) := ⟨⟨by decide +kernel, by decide +kernel⟩, List.mem_of_getElem? (i := 803) (by decide +kernel), List.mem_of_getElem? (i := 977) (by decide +kernel), List.mem_of_getElem? (i := 978) (by decide +kernel)⟩
def lw_privs_2 : List (MethodName × Nat) := [(⟨"DialTown$Walker", "endOfSet", "(LDialTown$Town;IIII)I"⟩, 7), (⟨"DialTown$Walker", "openingFrom", "(II)I"⟩, 7), (⟨"DialTown$Dial", "countHours", "(LDialTown$Town;I)V"⟩, 4), (⟨"DialTown$Asker", "begin", "(LDialTown$Town;III)I"⟩, 2), (⟨"DialTown$Asker", "note", "(I)V"⟩, 2), (⟨"DialTownModel", "finding", "(I)I"⟩, 27), (⟨"DialTownModel", "begin", "()V"⟩, 27), (⟨"DialTownModel", "next", "()V"⟩, 27), (⟨"DialTownModel", "byteAt", "(I)I"⟩, 27), (⟨"DialTownModel", "readTower", "()V"⟩, 27), (⟨"DialTownModel", "name", "()J"⟩, 27), (⟨"DialTownModel", "must", "(Z)V"⟩, 27), (⟨"DialTownModel", "bad", "(I)V"⟩, 27), (⟨"DialTownModel", "number", "(II)I"⟩, 27), (⟨"DialTownModel", "figures", "()I"⟩, 27), (⟨"DialTownModel", "mustEnd", "()V"⟩, 27)]
theorem lw_r2 : ∀ q ∈ lw_privs_2, lw_okq q := List.forall_mem_cons.mpr ⟨lw_p16, List.forall_mem_cons.mpr ⟨lw_p17, List.forall_mem_cons.mpr ⟨lw_p18, List.forall_mem_cons.mpr ⟨lw_p19, List.forall_mem_cons.mpr ⟨lw_p20, List.forall_mem_cons.mpr ⟨lw_p21, List.forall_mem_cons.mpr ⟨lw_p22, List.forall_mem_cons.mpr ⟨lw_p23, List.forall_mem_cons.mpr ⟨lw_p24, List.forall_mem_cons.mpr ⟨lw_p25, List.forall_mem_cons.mpr ⟨lw_p26, List.forall_mem_cons.mpr ⟨lw_p27, List.forall_mem_cons.mpr ⟨lw_p28, List.forall_mem_cons.mpr ⟨lw_p29, List.forall_mem_cons.mpr ⟨lw_p30, List.forall_mem_cons.mpr ⟨lw_p31, fun _ h => absurd h List.not_mem_nil⟩⟩⟩⟩⟩⟩⟩⟩⟩⟩⟩⟩⟩⟩⟩⟩
theorem lw_p32 : lw_okq (⟨"DialTownModel", "readWall", "()V"⟩, 27) := ⟨⟨by decide +kernel, by decide +kernel⟩, List.mem_of_getElem? (i := 803) (by decide +kernel), List.mem_of_getElem? (i := 982) (by decide +kernel), List.mem_of_getElem? (i := 983) (by decide +kernel)⟩
theorem lw_p33 : lw_okq (⟨"DialTownModel", "begins", "(II)V"⟩, 27) := ⟨⟨by decide +kernel, by decide +kernel⟩, List.mem_of_getElem? (i := 803) (by decide +kernel), List.mem_of_getElem? (i := 986) (by decide +kernel), List.mem_of_getElem? (i := 987) (by decide +kernel)⟩
theorem lw_p34 : lw_okq (⟨"DialTownModel", "readShop", "()V"⟩, 27) := ⟨⟨by decide +kernel, by decide +kernel⟩, List.mem_of_getElem? (i := 803) (by decide +kernel), List.mem_of_getElem? (i := 991) (by decide +kernel), List.mem_of_getElem? (i := 992) (by decide +kernel)⟩
theorem lw_p35 : lw_okq (⟨"DialTownModel", "isThere", "()Z"⟩, 27) := ⟨⟨by decide +kernel, by decide +kernel⟩, List.mem_of_getElem? (i := 803) (by decide +kernel), List.mem_of_getElem? (i := 1015) (by decide +kernel), List.mem_of_getElem? (i := 1016) (by decide +kernel)⟩
theorem lw_p36 : lw_okq (⟨"DialTownModel", "clouds", "()I"⟩, 27) := ⟨⟨by decide +kernel, by decide +kernel⟩, List.mem_of_getElem? (i := 803) (by decide +kernel), List.mem_of_getElem? (i := 1046) (by decide +kernel), List.mem_of_getElem? (i := 1047) (by decide +kernel)⟩
theorem lw_p37 : lw_okq (⟨"DialTownModel", "layNow", "(I)V"⟩, 27) := ⟨⟨by decide +kernel, by decide +kernel⟩, List.mem_of_getElem? (i := 803) (by decide +kernel), List.mem_of_getElem? (i := 1071) (by decide +kernel), List.mem_of_getElem? (i := 1072) (by decide +kernel)⟩
theorem lw_p38 : lw_okq (⟨"DialTownModel", "layShadow", "(IIII)V"⟩, 27) := ⟨⟨by decide +kernel, by decide +kernel⟩, List.mem_of_getElem? (i := 803) (by decide +kernel), List.mem_of_getElem? (i := 1075) (by decide +kernel), List.mem_of_getElem? (i := 1076) (by decide +kernel)⟩
theorem lw_p39 : lw_okq (⟨"DialTownModel", "openAt", "(I)I"⟩, 27) := ⟨⟨by decide +kernel, by decide +kernel⟩, List.mem_of_getElem? (i := 803) (by decide +kernel), List.mem_of_getElem? (i := 1086) (by decide +kernel), List.mem_of_getElem? (i := 1087) (by decide +kernel)⟩
theorem lw_p40 : lw_okq (⟨"DialTownModel", "openBy", "(I)I"⟩, 27) := ⟨⟨by decide +kernel, by decide +kernel⟩, List.mem_of_getElem? (i := 803) (by decide +kernel), List.mem_of_getElem? (i := 1090) (by decide +kernel), List.mem_of_getElem? (i := 1091) (by decide +kernel)⟩
theorem lw_p41 : lw_okq (⟨"DialTownModel", "kind0", "(I)I"⟩, 27) := ⟨⟨by decide +kernel, by decide +kernel⟩, List.mem_of_getElem? (i := 803) (by decide +kernel), List.mem_of_getElem? (i := 1094) (by decide +kernel), List.mem_of_getElem? (i := 1095) (by decide +kernel)⟩
theorem lw_p42 : lw_okq (⟨"DialTownModel", "cellOf", "(I)I"⟩, 27) := ⟨⟨by decide +kernel, by decide +kernel⟩, List.mem_of_getElem? (i := 803) (by decide +kernel), List.mem_of_getElem? (i := 1098) (by decide +kernel), List.mem_of_getElem? (i := 1099) (by decide +kernel)⟩
theorem lw_p43 : lw_okq (⟨"DialTownModel", "isOpen", "(III)Z"⟩, 27) := ⟨⟨by decide +kernel, by decide +kernel⟩, List.mem_of_getElem? (i := 803) (by decide +kernel), List.mem_of_getElem? (i := 1102) (by decide +kernel), List.mem_of_getElem? (i := 1103) (by decide +kernel)⟩
theorem lw_p44 : lw_okq (⟨"DialTownModel", "isShop", "(I)Z"⟩, 27) := ⟨⟨by decide +kernel, by decide +kernel⟩, List.mem_of_getElem? (i := 803) (by decide +kernel), List.mem_of_getElem? (i := 1114) (by decide +kernel), List.mem_of_getElem? (i := 1115) (by decide +kernel)⟩
theorem lw_p45 : lw_okq (⟨"DialTownModel", "slotsNow", "(I)I"⟩, 27) := ⟨⟨by decide +kernel, by decide +kernel⟩, List.mem_of_getElem? (i := 803) (by decide +kernel), List.mem_of_getElem? (i := 1118) (by decide +kernel), List.mem_of_getElem? (i := 1119) (by decide +kernel)⟩
theorem lw_p46 : lw_okq (⟨"DialTownModel", "slotsOf", "(IIIIZ)I"⟩, 27) := ⟨⟨by decide +kernel, by decide +kernel⟩, List.mem_of_getElem? (i := 803) (by decide +kernel), List.mem_of_getElem? (i := 1122) (by decide +kernel), List.mem_of_getElem? (i := 1123) (by decide +kernel)⟩
theorem lw_p47 : lw_okq (⟨"DialTownModel", "mayBe", "(I)Z"⟩, 27) := ⟨⟨by decide +kernel, by decide +kernel⟩, List.mem_of_getElem? (i := 803) (by decide +kernel), List.mem_of_getElem? (i := 1130) (by decide +kernel), List.mem_of_getElem? (i := 1131) (by decide +kernel)⟩
def lw_privs_3 : List (MethodName × Nat) := [(⟨"DialTownModel", "readWall", "()V"⟩, 27), (⟨"DialTownModel", "begins", "(II)V"⟩, 27), (⟨"DialTownModel", "readShop", "()V"⟩, 27), (⟨"DialTownModel", "isThere", "()Z"⟩, 27), (⟨"DialTownModel", "clouds", "()I"⟩, 27), (⟨"DialTownModel", "layNow", "(I)V"⟩, 27), (⟨"DialTownModel", "layShadow", "(IIII)V"⟩, 27), (⟨"DialTownModel", "openAt", "(I)I"⟩, 27), (⟨"DialTownModel", "openBy", "(I)I"⟩, 27), (⟨"DialTownModel", "kind0", "(I)I"⟩, 27), (⟨"DialTownModel", "cellOf", "(I)I"⟩, 27), (⟨"DialTownModel", "isOpen", "(III)Z"⟩, 27), (⟨"DialTownModel", "isShop", "(I)Z"⟩, 27), (⟨"DialTownModel", "slotsNow", "(I)I"⟩, 27), (⟨"DialTownModel", "slotsOf", "(IIIIZ)I"⟩, 27), (⟨"DialTownModel", "mayBe", "(I)Z"⟩, 27)]
theorem lw_r3 : ∀ q ∈ lw_privs_3, lw_okq q := List.forall_mem_cons.mpr ⟨lw_p32, List.forall_mem_cons.mpr ⟨lw_p33, List.forall_mem_cons.mpr ⟨lw_p34, List.forall_mem_cons.mpr ⟨lw_p35, List.forall_mem_cons.mpr ⟨lw_p36, List.forall_mem_cons.mpr ⟨lw_p37, List.forall_mem_cons.mpr ⟨lw_p38, List.forall_mem_cons.mpr ⟨lw_p39, List.forall_mem_cons.mpr ⟨lw_p40, List.forall_mem_cons.mpr ⟨lw_p41, List.forall_mem_cons.mpr ⟨lw_p42, List.forall_mem_cons.mpr ⟨lw_p43, List.forall_mem_cons.mpr ⟨lw_p44, List.forall_mem_cons.mpr ⟨lw_p45, List.forall_mem_cons.mpr ⟨lw_p46, List.forall_mem_cons.mpr ⟨lw_p47, fun _ h => absurd h List.not_mem_nil⟩⟩⟩⟩⟩⟩⟩⟩⟩⟩⟩⟩⟩⟩⟩⟩
theorem lw_p48 : lw_okq (⟨"DialTownModel", "shopsAt", "(I)I"⟩, 27) := ⟨⟨by decide +kernel, by decide +kernel⟩, List.mem_of_getElem? (i := 803) (by decide +kernel), List.mem_of_getElem? (i := 1134) (by decide +kernel), List.mem_of_getElem? (i := 1135) (by decide +kernel)⟩
theorem lw_p49 : lw_okq (⟨"DialTownModel", "goOn", "(II)Z"⟩, 27) := ⟨⟨by decide +kernel, by decide +kernel⟩, List.mem_of_getElem? (i := 803) (by decide +kernel), List.mem_of_getElem? (i := 1138) (by decide +kernel), List.mem_of_getElem? (i := 1139) (by decide +kernel)⟩
theorem lw_p50 : lw_okq (⟨"DialTownModel", "nextCell", "(II)I"⟩, 27) := ⟨⟨by decide +kernel, by decide +kernel⟩, List.mem_of_getElem? (i := 803) (by decide +kernel), List.mem_of_getElem? (i := 1142) (by decide +kernel), List.mem_of_getElem? (i := 1143) (by decide +kernel)⟩
theorem lw_p51 : lw_okq (⟨"DialTownModel", "lack", "(III)I"⟩, 27) := ⟨⟨by decide +kernel, by decide +kernel⟩, List.mem_of_getElem? (i := 803) (by decide +kernel), List.mem_of_getElem? (i := 1151) (by decide +kernel), List.mem_of_getElem? (i := 1152) (by decide +kernel)⟩
theorem lw_p52 : lw_okq (⟨"DialTownModel", "spread", "([ZII)V"⟩, 27) := ⟨⟨by decide +kernel, by decide +kernel⟩, List.mem_of_getElem? (i := 803) (by decide +kernel), List.mem_of_getElem? (i := 1159) (by decide +kernel), List.mem_of_getElem? (i := 1160) (by decide +kernel)⟩
theorem lw_p53 : lw_okq (⟨"DialTownModel", "askSize", "(I)I"⟩, 27) := ⟨⟨by decide +kernel, by decide +kernel⟩, List.mem_of_getElem? (i := 803) (by decide +kernel), List.mem_of_getElem? (i := 1199) (by decide +kernel), List.mem_of_getElem? (i := 1200) (by decide +kernel)⟩
theorem lw_p54 : lw_okq (⟨"DialTownModel", "sunnySize", "(I)I"⟩, 27) := ⟨⟨by decide +kernel, by decide +kernel⟩, List.mem_of_getElem? (i := 803) (by decide +kernel), List.mem_of_getElem? (i := 1203) (by decide +kernel), List.mem_of_getElem? (i := 1204) (by decide +kernel)⟩
theorem lw_p55 : lw_okq (⟨"DialTownModel", "began", "(I)V"⟩, 27) := ⟨⟨by decide +kernel, by decide +kernel⟩, List.mem_of_getElem? (i := 803) (by decide +kernel), List.mem_of_getElem? (i := 1207) (by decide +kernel), List.mem_of_getElem? (i := 1208) (by decide +kernel)⟩
theorem lw_p56 : lw_okq (⟨"DialTownModel", "plainSize", "(I)I"⟩, 27) := ⟨⟨by decide +kernel, by decide +kernel⟩, List.mem_of_getElem? (i := 803) (by decide +kernel), List.mem_of_getElem? (i := 1211) (by decide +kernel), List.mem_of_getElem? (i := 1212) (by decide +kernel)⟩
theorem lw_p57 : lw_okq (⟨"DialTownModel", "markOf", "(I)I"⟩, 27) := ⟨⟨by decide +kernel, by decide +kernel⟩, List.mem_of_getElem? (i := 803) (by decide +kernel), List.mem_of_getElem? (i := 1215) (by decide +kernel), List.mem_of_getElem? (i := 1216) (by decide +kernel)⟩
def lw_privs_4 : List (MethodName × Nat) := [(⟨"DialTownModel", "shopsAt", "(I)I"⟩, 27), (⟨"DialTownModel", "goOn", "(II)Z"⟩, 27), (⟨"DialTownModel", "nextCell", "(II)I"⟩, 27), (⟨"DialTownModel", "lack", "(III)I"⟩, 27), (⟨"DialTownModel", "spread", "([ZII)V"⟩, 27), (⟨"DialTownModel", "askSize", "(I)I"⟩, 27), (⟨"DialTownModel", "sunnySize", "(I)I"⟩, 27), (⟨"DialTownModel", "began", "(I)V"⟩, 27), (⟨"DialTownModel", "plainSize", "(I)I"⟩, 27), (⟨"DialTownModel", "markOf", "(I)I"⟩, 27)]
theorem lw_r4 : ∀ q ∈ lw_privs_4, lw_okq q := List.forall_mem_cons.mpr ⟨lw_p48, List.forall_mem_cons.mpr ⟨lw_p49, List.forall_mem_cons.mpr ⟨lw_p50, List.forall_mem_cons.mpr ⟨lw_p51, List.forall_mem_cons.mpr ⟨lw_p52, List.forall_mem_cons.mpr ⟨lw_p53, List.forall_mem_cons.mpr ⟨lw_p54, List.forall_mem_cons.mpr ⟨lw_p55, List.forall_mem_cons.mpr ⟨lw_p56, List.forall_mem_cons.mpr ⟨lw_p57, fun _ h => absurd h List.not_mem_nil⟩⟩⟩⟩⟩⟩⟩⟩⟩⟩
def lw_privs : List (MethodName × Nat) := lw_privs_1 ++ (lw_privs_2 ++ (lw_privs_3 ++ (lw_privs_4)))
def lw_tbl : List Cond := k2_sels lw_privs ++ tables_1
theorem lw_privs_ok : ∀ q ∈ lw_privs, lw_okq q := by
  show ∀ q ∈ lw_privs_1 ++ (lw_privs_2 ++ (lw_privs_3 ++ (lw_privs_4))), lw_okq q
  exact List.forall_mem_append.mpr ⟨lw_r1, List.forall_mem_append.mpr ⟨lw_r2, List.forall_mem_append.mpr ⟨lw_r3, lw_r4⟩⟩⟩
def RX0 : String := "DialTown$Asker"
def TX0 : u_T := fun k => match k with
  | 0 => ("DialTown$Asker", "trail", "[I", true)
  | _ => ("DialTown$Asker", "traced", "I", false)
def tyX0 : Nat → FieldType := fun k => match k with
  | 0 => .array .int
  | _ => .int
theorem nmX0 : ∀ a, a < 2 → ∀ b, b < 2 → a ≠ b → (TX0 a).2.1 ≠ (TX0 b).2.1 := by decide +kernel
theorem tyX0_ok : ∀ k, k < 2 → parseFieldDescriptor (TX0 k).2.2.1 = some (tyX0 k) := by decide +kernel
abbrev cX0_init : ByteArray := prog_2_method_1_code
def yX0_init : MethodName := ⟨RX0, "<init>", "()V"⟩
abbrev cX0_isOfKind : ByteArray := prog_2_method_2_code
def yX0_isOfKind : MethodName := ⟨RX0, "isOfKind", "(II)Z"⟩
abbrev cX0_answer : ByteArray := prog_2_method_3_code
def yX0_answer : MethodName := ⟨RX0, "answer", "(LDialTown$Town;II)I"⟩
abbrev cX0_begin : ByteArray := prog_2_method_4_code
def yX0_begin : MethodName := ⟨RX0, "begin", "(LDialTown$Town;III)I"⟩
abbrev cX0_note : ByteArray := prog_2_method_5_code
def yX0_note : MethodName := ⟨RX0, "note", "(I)V"⟩
def RX1 : String := "DialTown$Dial"
def TX1 : u_T := fun k => match k with
  | 0 => ("DialTown$Dial", "shaded", "[I", true)
  | 1 => ("DialTown$Dial", "length", "I", false)
  | 2 => ("DialTown$Dial", "day", "[I", true)
  | _ => ("DialTown$Dial", "hours", "[I", true)
def tyX1 : Nat → FieldType := fun k => match k with
  | 0 => .array .int
  | 1 => .int
  | 2 => .array .int
  | _ => .array .int
theorem nmX1 : ∀ a, a < 4 → ∀ b, b < 4 → a ≠ b → (TX1 a).2.1 ≠ (TX1 b).2.1 := by decide +kernel
theorem tyX1_ok : ∀ k, k < 4 → parseFieldDescriptor (TX1 k).2.2.1 = some (tyX1 k) := by decide +kernel
abbrev cX1_init : ByteArray := prog_3_method_1_code
def yX1_init : MethodName := ⟨RX1, "<init>", "()V"⟩
abbrev cX1_throwShadow : ByteArray := prog_3_method_2_code
def yX1_throwShadow : MethodName := ⟨RX1, "throwShadow", "(LDialTown$Town;I)V"⟩
abbrev cX1_isInShadow : ByteArray := prog_3_method_3_code
def yX1_isInShadow : MethodName := ⟨RX1, "isInShadow", "(I)Z"⟩
abbrev cX1_openShops : ByteArray := prog_3_method_4_code
def yX1_openShops : MethodName := ⟨RX1, "openShops", "(LDialTown$Town;I)I"⟩
abbrev cX1_openSlots : ByteArray := prog_3_method_5_code
def yX1_openSlots : MethodName := ⟨RX1, "openSlots", "(LDialTown$Town;I)I"⟩
abbrev cX1_tellDay : ByteArray := prog_3_method_6_code
def yX1_tellDay : MethodName := ⟨RX1, "tellDay", "(LDialTown$Town;)V"⟩
abbrev cX1_bestCell : ByteArray := prog_3_method_7_code
def yX1_bestCell : MethodName := ⟨RX1, "bestCell", "(LDialTown$Town;I)I"⟩
abbrev cX1_countHours : ByteArray := prog_3_method_8_code
def yX1_countHours : MethodName := ⟨RX1, "countHours", "(LDialTown$Town;I)V"⟩
abbrev cX1_isOpen : ByteArray := prog_3_method_9_code
def yX1_isOpen : MethodName := ⟨RX1, "isOpen", "(III)Z"⟩
def RX2 : String := "DialTown$Reader"
def TX2 : u_T := fun k => match k with
  | 0 => ("DialTown$Reader", "tape", "LDialTown$Tape;", true)
  | 1 => ("DialTown$Reader", "town", "LDialTown$Town;", true)
  | 2 => ("DialTown$Reader", "next", "I", false)
  | 3 => ("DialTown$Reader", "token", "I", false)
  | 4 => ("DialTown$Reader", "from", "I", false)
  | 5 => ("DialTown$Reader", "number", "I", false)
  | 6 => ("DialTown$Reader", "wallsTold", "I", false)
  | 7 => ("DialTown$Reader", "faultNumber", "I", false)
  | _ => ("DialTown$Reader", "faultPlace", "I", false)
def tyX2 : Nat → FieldType := fun k => match k with
  | 0 => .object "DialTown$Tape"
  | 1 => .object "DialTown$Town"
  | 2 => .int
  | 3 => .int
  | 4 => .int
  | 5 => .int
  | 6 => .int
  | 7 => .int
  | _ => .int
theorem nmX2 : ∀ a, a < 9 → ∀ b, b < 9 → a ≠ b → (TX2 a).2.1 ≠ (TX2 b).2.1 := by decide +kernel
theorem tyX2_ok : ∀ k, k < 9 → parseFieldDescriptor (TX2 k).2.2.1 = some (tyX2 k) := by decide +kernel
abbrev cX2_init : ByteArray := prog_4_method_1_code
def yX2_init : MethodName := ⟨RX2, "<init>", "(LDialTown$Tape;LDialTown$Town;)V"⟩
abbrev cX2_readsAll : ByteArray := prog_4_method_2_code
def yX2_readsAll : MethodName := ⟨RX2, "readsAll", "()Z"⟩
abbrev cX2_readsTower : ByteArray := prog_4_method_3_code
def yX2_readsTower : MethodName := ⟨RX2, "readsTower", "()Z"⟩
abbrev cX2_readsWall : ByteArray := prog_4_method_4_code
def yX2_readsWall : MethodName := ⟨RX2, "readsWall", "()Z"⟩
abbrev cX2_readsShop : ByteArray := prog_4_method_5_code
def yX2_readsShop : MethodName := ⟨RX2, "readsShop", "()Z"⟩
abbrev cX2_sortTold : ByteArray := prog_4_method_6_code
def yX2_sortTold : MethodName := ⟨RX2, "sortTold", "()I"⟩
abbrev cX2_readCell : ByteArray := prog_4_method_7_code
def yX2_readCell : MethodName := ⟨RX2, "readCell", "()I"⟩
abbrev cX2_readsNumber : ByteArray := prog_4_method_8_code
def yX2_readsNumber : MethodName := ⟨RX2, "readsNumber", "(II)Z"⟩
abbrev cX2_readsSign : ByteArray := prog_4_method_9_code
def yX2_readsSign : MethodName := ⟨RX2, "readsSign", "()Z"⟩
abbrev cX2_isWord : ByteArray := prog_4_method_10_code
def yX2_isWord : MethodName := ⟨RX2, "isWord", "(Ljava/lang/String;)Z"⟩
abbrev cX2_fails : ByteArray := prog_4_method_11_code
def yX2_fails : MethodName := ⟨RX2, "fails", "(I)Z"⟩
abbrev cX2_takeToken : ByteArray := prog_4_method_12_code
def yX2_takeToken : MethodName := ⟨RX2, "takeToken", "()V"⟩
def RX3 : String := "DialTown$Rows"
def TX3 : u_T := fun k => match k with
  | 0 => ("DialTown$Rows", "lanes", "[I", true)
  | 1 => ("DialTown$Rows", "lengths", "[I", true)
  | _ => ("DialTown$Rows", "items", "[[I", true)
def tyX3 : Nat → FieldType := fun k => match k with
  | 0 => .array .int
  | 1 => .array .int
  | _ => .array (.array .int)
theorem nmX3 : ∀ a, a < 3 → ∀ b, b < 3 → a ≠ b → (TX3 a).2.1 ≠ (TX3 b).2.1 := by decide +kernel
theorem tyX3_ok : ∀ k, k < 3 → parseFieldDescriptor (TX3 k).2.2.1 = some (tyX3 k) := by decide +kernel
abbrev cX3_init : ByteArray := prog_5_method_1_code
def yX3_init : MethodName := ⟨RX3, "<init>", "()V"⟩
abbrev cX3_isRow : ByteArray := prog_5_method_2_code
def yX3_isRow : MethodName := ⟨RX3, "isRow", "(I)Z"⟩
abbrev cX3_isMissing : ByteArray := prog_5_method_3_code
def yX3_isMissing : MethodName := ⟨RX3, "isMissing", "(I)Z"⟩
abbrev cX3_haveOneLane : ByteArray := prog_5_method_4_code
def yX3_haveOneLane : MethodName := ⟨RX3, "haveOneLane", "(II)Z"⟩
abbrev cX3_hasItems : ByteArray := prog_5_method_5_code
def yX3_hasItems : MethodName := ⟨RX3, "hasItems", "(III)Z"⟩
abbrev cX3_lay : ByteArray := prog_5_method_6_code
def yX3_lay : MethodName := ⟨RX3, "lay", "(III)V"⟩
abbrev cX3_remove : ByteArray := prog_5_method_7_code
def yX3_remove : MethodName := ⟨RX3, "remove", "(I)I"⟩
abbrev cX3_put : ByteArray := prog_5_method_8_code
def yX3_put : MethodName := ⟨RX3, "put", "(III)I"⟩
abbrev cX3_item : ByteArray := prog_5_method_9_code
def yX3_item : MethodName := ⟨RX3, "item", "(II)I"⟩
abbrev cX3_move : ByteArray := prog_5_method_10_code
def yX3_move : MethodName := ⟨RX3, "move", "(IIIII)V"⟩
abbrev cX3_present : ByteArray := prog_5_method_11_code
def yX3_present : MethodName := ⟨RX3, "present", "()I"⟩
def RX4 : String := "DialTown$Tape"
def TX4 : u_T := fun k => match k with
  | 0 => ("DialTown$Tape", "bytes", "[I", true)
  | _ => ("DialTown$Tape", "length", "I", false)
def tyX4 : Nat → FieldType := fun k => match k with
  | 0 => .array .int
  | _ => .int
theorem nmX4 : ∀ a, a < 2 → ∀ b, b < 2 → a ≠ b → (TX4 a).2.1 ≠ (TX4 b).2.1 := by decide +kernel
theorem tyX4_ok : ∀ k, k < 2 → parseFieldDescriptor (TX4 k).2.2.1 = some (tyX4 k) := by decide +kernel
abbrev cX4_init : ByteArray := prog_6_method_1_code
def yX4_init : MethodName := ⟨RX4, "<init>", "()V"⟩
abbrev cX4_hasRoomFor : ByteArray := prog_6_method_2_code
def yX4_hasRoomFor : MethodName := ⟨RX4, "hasRoomFor", "(I)Z"⟩
abbrev cX4_append : ByteArray := prog_6_method_3_code
def yX4_append : MethodName := ⟨RX4, "append", "(JI)I"⟩
abbrev cX4_clear : ByteArray := prog_6_method_4_code
def yX4_clear : MethodName := ⟨RX4, "clear", "()V"⟩
abbrev cX4_byteAt : ByteArray := prog_6_method_5_code
def yX4_byteAt : MethodName := ⟨RX4, "byteAt", "(I)I"⟩
abbrev cX4_endOfBlanks : ByteArray := prog_6_method_6_code
def yX4_endOfBlanks : MethodName := ⟨RX4, "endOfBlanks", "(I)I"⟩
abbrev cX4_endOfRun : ByteArray := prog_6_method_7_code
def yX4_endOfRun : MethodName := ⟨RX4, "endOfRun", "(III)I"⟩
abbrev cX4_numberIn : ByteArray := prog_6_method_8_code
def yX4_numberIn : MethodName := ⟨RX4, "numberIn", "(II)I"⟩
abbrev cX4_hasWord : ByteArray := prog_6_method_9_code
def yX4_hasWord : MethodName := ⟨RX4, "hasWord", "(Ljava/lang/String;II)Z"⟩
def RX5 : String := "DialTown$Town"
def TX5 : u_T := fun k => match k with
  | 0 => ("DialTown$Town", "stands", "Z", false)
  | 1 => ("DialTown$Town", "towerX", "I", false)
  | 2 => ("DialTown$Town", "towerY", "I", false)
  | 3 => ("DialTown$Town", "reach", "I", false)
  | 4 => ("DialTown$Town", "season", "I", false)
  | 5 => ("DialTown$Town", "leanEast", "I", false)
  | 6 => ("DialTown$Town", "leanNorth", "I", false)
  | 7 => ("DialTown$Town", "walls", "I", false)
  | 8 => ("DialTown$Town", "shops", "I", false)
  | 9 => ("DialTown$Town", "ground", "[I", true)
  | 10 => ("DialTown$Town", "clouds", "[I", true)
  | 11 => ("DialTown$Town", "sorts", "[I", true)
  | 12 => ("DialTown$Town", "cells", "[I", true)
  | _ => ("DialTown$Town", "rents", "[I", true)
def tyX5 : Nat → FieldType := fun k => match k with
  | 0 => .boolean
  | 1 => .int
  | 2 => .int
  | 3 => .int
  | 4 => .int
  | 5 => .int
  | 6 => .int
  | 7 => .int
  | 8 => .int
  | 9 => .array .int
  | 10 => .array .int
  | 11 => .array .int
  | 12 => .array .int
  | _ => .array .int
theorem nmX5 : ∀ a, a < 14 → ∀ b, b < 14 → a ≠ b → (TX5 a).2.1 ≠ (TX5 b).2.1 := by decide +kernel
theorem tyX5_ok : ∀ k, k < 14 → parseFieldDescriptor (TX5 k).2.2.1 = some (tyX5 k) := by decide +kernel
abbrev cX5_init : ByteArray := prog_7_method_1_code
def yX5_init : MethodName := ⟨RX5, "<init>", "()V"⟩
abbrev cX5_clear : ByteArray := prog_7_method_2_code
def yX5_clear : MethodName := ⟨RX5, "clear", "()V"⟩
abbrev cX5_become : ByteArray := prog_7_method_3_code
def yX5_become : MethodName := ⟨RX5, "become", "(LDialTown$Town;)V"⟩
abbrev cX5_raiseTower : ByteArray := prog_7_method_4_code
def yX5_raiseTower : MethodName := ⟨RX5, "raiseTower", "(III)V"⟩
abbrev cX5_addWall : ByteArray := prog_7_method_5_code
def yX5_addWall : MethodName := ⟨RX5, "addWall", "(I)V"⟩
abbrev cX5_addShop : ByteArray := prog_7_method_6_code
def yX5_addShop : MethodName := ⟨RX5, "addShop", "(III)V"⟩
abbrev cX5_removeShop : ByteArray := prog_7_method_7_code
def yX5_removeShop : MethodName := ⟨RX5, "removeShop", "()V"⟩
abbrev cX5_leanTo : ByteArray := prog_7_method_8_code
def yX5_leanTo : MethodName := ⟨RX5, "leanTo", "(II)V"⟩
abbrev cX5_clearClouds : ByteArray := prog_7_method_9_code
def yX5_clearClouds : MethodName := ⟨RX5, "clearClouds", "()V"⟩
abbrev cX5_drawClouds : ByteArray := prog_7_method_10_code
def yX5_drawClouds : MethodName := ⟨RX5, "drawClouds", "(II)V"⟩
abbrev cX5_cloudy : ByteArray := prog_7_method_11_code
def yX5_cloudy : MethodName := ⟨RX5, "cloudy", "()I"⟩
abbrev cX5_isFree : ByteArray := prog_7_method_12_code
def yX5_isFree : MethodName := ⟨RX5, "isFree", "(I)Z"⟩
abbrev cX5_isTower : ByteArray := prog_7_method_13_code
def yX5_isTower : MethodName := ⟨RX5, "isTower", "(I)Z"⟩
abbrev cX5_isWall : ByteArray := prog_7_method_14_code
def yX5_isWall : MethodName := ⟨RX5, "isWall", "(I)Z"⟩
abbrev cX5_isWalkable : ByteArray := prog_7_method_15_code
def yX5_isWalkable : MethodName := ⟨RX5, "isWalkable", "(I)Z"⟩
abbrev cX5_hasShop : ByteArray := prog_7_method_16_code
def yX5_hasShop : MethodName := ⟨RX5, "hasShop", "(I)Z"⟩
abbrev cX5_hasShops : ByteArray := prog_7_method_17_code
def yX5_hasShops : MethodName := ⟨RX5, "hasShops", "(I)Z"⟩
abbrev cX5_shopIn : ByteArray := prog_7_method_18_code
def yX5_shopIn : MethodName := ⟨RX5, "shopIn", "(I)I"⟩
abbrev cX5_kindOf : ByteArray := prog_7_method_19_code
def yX5_kindOf : MethodName := ⟨RX5, "kindOf", "(I)I"⟩
def RX6 : String := "DialTown$Walker"
def TX6 : u_T := fun k => match k with
  | 0 => ("DialTown$Walker", "queue", "[I", true)
  | 1 => ("DialTown$Walker", "far", "[[I", true)
  | 2 => ("DialTown$Walker", "opening", "[[I", true)
  | 3 => ("DialTown$Walker", "visitedBy", "[I", true)
  | 4 => ("DialTown$Walker", "cell", "I", false)
  | 5 => ("DialTown$Walker", "slot", "I", false)
  | _ => ("DialTown$Walker", "visited", "I", false)
def tyX6 : Nat → FieldType := fun k => match k with
  | 0 => .array .int
  | 1 => .array (.array .int)
  | 2 => .array (.array .int)
  | 3 => .array .int
  | 4 => .int
  | 5 => .int
  | _ => .int
theorem nmX6 : ∀ a, a < 7 → ∀ b, b < 7 → a ≠ b → (TX6 a).2.1 ≠ (TX6 b).2.1 := by decide +kernel
theorem tyX6_ok : ∀ k, k < 7 → parseFieldDescriptor (TX6 k).2.2.1 = some (tyX6 k) := by decide +kernel
abbrev cX6_init : ByteArray := prog_8_method_1_code
def yX6_init : MethodName := ⟨RX6, "<init>", "()V"⟩
abbrev cX6_start : ByteArray := prog_8_method_2_code
def yX6_start : MethodName := ⟨RX6, "start", "(LDialTown$Town;LDialTown$Dial;II)V"⟩
abbrev cX6_goes : ByteArray := prog_8_method_3_code
def yX6_goes : MethodName := ⟨RX6, "goes", "(LDialTown$Town;LDialTown$Dial;I)Z"⟩
abbrev cX6_shopsBetween : ByteArray := prog_8_method_4_code
def yX6_shopsBetween : MethodName := ⟨RX6, "shopsBetween", "(LDialTown$Town;[IIIII)I"⟩
abbrev cX6_endOfErrands : ByteArray := prog_8_method_5_code
def yX6_endOfErrands : MethodName := ⟨RX6, "endOfErrands", "(LDialTown$Town;[IIII)I"⟩
abbrev cX6_endOfSet : ByteArray := prog_8_method_6_code
def yX6_endOfSet : MethodName := ⟨RX6, "endOfSet", "(LDialTown$Town;IIII)I"⟩
abbrev cX6_openingFrom : ByteArray := prog_8_method_7_code
def yX6_openingFrom : MethodName := ⟨RX6, "openingFrom", "(II)I"⟩
abbrev cX6_tellOpenings : ByteArray := prog_8_method_8_code
def yX6_tellOpenings : MethodName := ⟨RX6, "tellOpenings", "([II)V"⟩
abbrev cX6_measure : ByteArray := prog_8_method_9_code
def yX6_measure : MethodName := ⟨RX6, "measure", "(LDialTown$Town;I[I)V"⟩
abbrev cX6_cellBeside : ByteArray := prog_8_method_10_code
def yX6_cellBeside : MethodName := ⟨RX6, "cellBeside", "(LDialTown$Town;II)I"⟩
def RX7 : String := "DialTown"
def TX7 : u_T := fun k => match k with
  | 0 => ("DialTown", "rows", "LDialTown$Rows;", true)
  | 1 => ("DialTown", "tape", "LDialTown$Tape;", true)
  | 2 => ("DialTown", "here", "LDialTown$Town;", true)
  | 3 => ("DialTown", "tried", "LDialTown$Town;", true)
  | 4 => ("DialTown", "images", "[LDialTown$Town;", true)
  | 5 => ("DialTown", "reader", "LDialTown$Reader;", true)
  | 6 => ("DialTown", "dial", "LDialTown$Dial;", true)
  | 7 => ("DialTown", "walker", "LDialTown$Walker;", true)
  | 8 => ("DialTown", "asker", "LDialTown$Asker;", true)
  | 9 => ("DialTown", "latestFault", "I", false)
  | _ => ("DialTown", "latestFinding", "I", false)
def tyX7 : Nat → FieldType := fun k => match k with
  | 0 => .object "DialTown$Rows"
  | 1 => .object "DialTown$Tape"
  | 2 => .object "DialTown$Town"
  | 3 => .object "DialTown$Town"
  | 4 => .array (.object "DialTown$Town")
  | 5 => .object "DialTown$Reader"
  | 6 => .object "DialTown$Dial"
  | 7 => .object "DialTown$Walker"
  | 8 => .object "DialTown$Asker"
  | 9 => .int
  | _ => .int
theorem nmX7 : ∀ a, a < 11 → ∀ b, b < 11 → a ≠ b → (TX7 a).2.1 ≠ (TX7 b).2.1 := by decide +kernel
theorem tyX7_ok : ∀ k, k < 11 → parseFieldDescriptor (TX7 k).2.2.1 = some (tyX7 k) := by decide +kernel
abbrev cX7_init : ByteArray := prog_1_method_1_code
def yX7_init : MethodName := ⟨RX7, "<init>", "()V"⟩
abbrev cX7_row : ByteArray := prog_1_method_2_code
def yX7_row : MethodName := ⟨RX7, "row", "(III)I"⟩
abbrev cX7_set : ByteArray := prog_1_method_3_code
def yX7_set : MethodName := ⟨RX7, "set", "(III)I"⟩
abbrev cX7_copy : ByteArray := prog_1_method_4_code
def yX7_copy : MethodName := ⟨RX7, "copy", "(IIIII)I"⟩
abbrev cX7_drop : ByteArray := prog_1_method_5_code
def yX7_drop : MethodName := ⟨RX7, "drop", "(I)I"⟩
abbrev cX7_feed : ByteArray := prog_1_method_6_code
def yX7_feed : MethodName := ⟨RX7, "feed", "(JI)I"⟩
abbrev cX7_town : ByteArray := prog_1_method_7_code
def yX7_town : MethodName := ⟨RX7, "town", "()I"⟩
abbrev cX7_fault : ByteArray := prog_1_method_8_code
def yX7_fault : MethodName := ⟨RX7, "fault", "()I"⟩
abbrev cX7_season : ByteArray := prog_1_method_9_code
def yX7_season : MethodName := ⟨RX7, "season", "(I)I"⟩
abbrev cX7_lean : ByteArray := prog_1_method_10_code
def yX7_lean : MethodName := ⟨RX7, "lean", "(II)I"⟩
abbrev cX7_cloud : ByteArray := prog_1_method_11_code
def yX7_cloud : MethodName := ⟨RX7, "cloud", "(II)I"⟩
abbrev cX7_draw : ByteArray := prog_1_method_12_code
def yX7_draw : MethodName := ⟨RX7, "draw", "(II)I"⟩
abbrev cX7_more : ByteArray := prog_1_method_13_code
def yX7_more : MethodName := ⟨RX7, "more", "(III)I"⟩
abbrev cX7_undo : ByteArray := prog_1_method_14_code
def yX7_undo : MethodName := ⟨RX7, "undo", "()I"⟩
abbrev cX7_shadow : ByteArray := prog_1_method_15_code
def yX7_shadow : MethodName := ⟨RX7, "shadow", "(II)I"⟩
abbrev cX7_open : ByteArray := prog_1_method_16_code
def yX7_open : MethodName := ⟨RX7, "open", "(I)I"⟩
abbrev cX7_shop : ByteArray := prog_1_method_17_code
def yX7_shop : MethodName := ⟨RX7, "shop", "(II)I"⟩
abbrev cX7_soonest : ByteArray := prog_1_method_18_code
def yX7_soonest : MethodName := ⟨RX7, "soonest", "(III)I"⟩
abbrev cX7_check : ByteArray := prog_1_method_19_code
def yX7_check : MethodName := ⟨RX7, "check", "(IIIIII)I"⟩
abbrev cX7_thief : ByteArray := prog_1_method_20_code
def yX7_thief : MethodName := ⟨RX7, "thief", "(IIII)I"⟩
abbrev cX7_longest : ByteArray := prog_1_method_21_code
def yX7_longest : MethodName := ⟨RX7, "longest", "(II)I"⟩
abbrev cX7_bills : ByteArray := prog_1_method_22_code
def yX7_bills : MethodName := ⟨RX7, "bills", "(II)I"⟩
abbrev cX7_leans : ByteArray := prog_1_method_23_code
def yX7_leans : MethodName := ⟨RX7, "leans", "(III)I"⟩
abbrev cX7_image : ByteArray := prog_1_method_24_code
def yX7_image : MethodName := ⟨RX7, "image", "(I)I"⟩
abbrev cX7_restore : ByteArray := prog_1_method_25_code
def yX7_restore : MethodName := ⟨RX7, "restore", "(I)I"⟩
abbrev cX7_kind : ByteArray := prog_1_method_26_code
def yX7_kind : MethodName := ⟨RX7, "kind", "(I)I"⟩
abbrev cX7_as : ByteArray := prog_1_method_27_code
def yX7_as : MethodName := ⟨RX7, "as", "(II)I"⟩
abbrev cX7_ask : ByteArray := prog_1_method_28_code
def yX7_ask : MethodName := ⟨RX7, "ask", "(II)I"⟩
abbrev cX7_trace : ByteArray := prog_1_method_29_code
def yX7_trace : MethodName := ⟨RX7, "trace", "(I)I"⟩
abbrev cX7_count : ByteArray := prog_1_method_30_code
def yX7_count : MethodName := ⟨RX7, "count", "(I)I"⟩
abbrev cX7_status : ByteArray := prog_1_method_31_code
def yX7_status : MethodName := ⟨RX7, "status", "()I"⟩
abbrev cX7_found : ByteArray := prog_1_method_32_code
def yX7_found : MethodName := ⟨RX7, "found", "(I)I"⟩
abbrev cX7_fine : ByteArray := prog_1_method_33_code
def yX7_fine : MethodName := ⟨RX7, "fine", "(I)I"⟩
abbrev cX7_openSlotsOfYear : ByteArray := prog_1_method_34_code
def yX7_openSlotsOfYear : MethodName := ⟨RX7, "openSlotsOfYear", "(I)I"⟩
abbrev cX7_isSlot : ByteArray := prog_1_method_35_code
def yX7_isSlot : MethodName := ⟨RX7, "isSlot", "(I)Z"⟩
abbrev cX7_isCell : ByteArray := prog_1_method_36_code
def yX7_isCell : MethodName := ⟨RX7, "isCell", "(I)Z"⟩
abbrev cX7_isSort : ByteArray := prog_1_method_37_code
def yX7_isSort : MethodName := ⟨RX7, "isSort", "(I)Z"⟩
abbrev cX7_isLean : ByteArray := prog_1_method_38_code
def yX7_isLean : MethodName := ⟨RX7, "isLean", "(I)Z"⟩
abbrev cX7_cellAt : ByteArray := prog_1_method_39_code
def yX7_cellAt : MethodName := ⟨RX7, "cellAt", "(II)I"⟩
def RX8 : String := "DialTownModel"
def TX8 : u_T := fun k => match k with
  | 0 => ("DialTownModel", "thrown", "I", false)
  | 1 => ("DialTownModel", "status", "I", false)
  | 2 => ("DialTownModel", "lane", "[I", true)
  | 3 => ("DialTownModel", "many", "[I", true)
  | 4 => ("DialTownModel", "item", "[I", true)
  | 5 => ("DialTownModel", "town", "[I", true)
  | 6 => ("DialTownModel", "fresh", "[I", true)
  | 7 => ("DialTownModel", "tape", "[I", true)
  | 8 => ("DialTownModel", "taped", "I", false)
  | 9 => ("DialTownModel", "latest", "I", false)
  | 10 => ("DialTownModel", "length", "I", false)
  | 11 => ("DialTownModel", "cursor", "I", false)
  | 12 => ("DialTownModel", "token", "I", false)
  | 13 => ("DialTownModel", "start", "I", false)
  | 14 => ("DialTownModel", "till", "I", false)
  | 15 => ("DialTownModel", "fault", "I", false)
  | 16 => ("DialTownModel", "faultAt", "I", false)
  | 17 => ("DialTownModel", "dark", "[Z", true)
  | 18 => ("DialTownModel", "is", "[Z", true)
  | 19 => ("DialTownModel", "then", "[Z", true)
  | 20 => ("DialTownModel", "from", "[Z", true)
  | 21 => ("DialTownModel", "to", "[Z", true)
  | 22 => ("DialTownModel", "slots", "[I", true)
  | 23 => ("DialTownModel", "isKept", "[Z", true)
  | 24 => ("DialTownModel", "kept", "[I", true)
  | 25 => ("DialTownModel", "trace", "[I", true)
  | _ => ("DialTownModel", "traced", "I", false)
def tyX8 : Nat → FieldType := fun k => match k with
  | 0 => .int
  | 1 => .int
  | 2 => .array .int
  | 3 => .array .int
  | 4 => .array .int
  | 5 => .array .int
  | 6 => .array .int
  | 7 => .array .int
  | 8 => .int
  | 9 => .int
  | 10 => .int
  | 11 => .int
  | 12 => .int
  | 13 => .int
  | 14 => .int
  | 15 => .int
  | 16 => .int
  | 17 => .array .boolean
  | 18 => .array .boolean
  | 19 => .array .boolean
  | 20 => .array .boolean
  | 21 => .array .boolean
  | 22 => .array .int
  | 23 => .array .boolean
  | 24 => .array .int
  | 25 => .array .int
  | _ => .int
theorem nmX8 : ∀ a, a < 27 → ∀ b, b < 27 → a ≠ b → (TX8 a).2.1 ≠ (TX8 b).2.1 := by decide +kernel
theorem tyX8_ok : ∀ k, k < 27 → parseFieldDescriptor (TX8 k).2.2.1 = some (tyX8 k) := by decide +kernel
abbrev cX8_init : ByteArray := prog_10_method_1_code
def yX8_init : MethodName := ⟨RX8, "<init>", "()V"⟩
abbrev cX8_in : ByteArray := prog_10_method_3_code
def yX8_in : MethodName := ⟨RX8, "in", "(JJJ)Z"⟩
abbrev cX8_finding : ByteArray := prog_10_method_4_code
def yX8_finding : MethodName := ⟨RX8, "finding", "(I)I"⟩
abbrev cX8_isRow : ByteArray := prog_10_method_5_code
def yX8_isRow : MethodName := ⟨RX8, "isRow", "(I)Z"⟩
abbrev cX8_row : ByteArray := prog_10_method_6_code
def yX8_row : MethodName := ⟨RX8, "row", "(III)I"⟩
abbrev cX8_set : ByteArray := prog_10_method_7_code
def yX8_set : MethodName := ⟨RX8, "set", "(III)I"⟩
abbrev cX8_copy : ByteArray := prog_10_method_8_code
def yX8_copy : MethodName := ⟨RX8, "copy", "(IIIII)I"⟩
abbrev cX8_drop : ByteArray := prog_10_method_9_code
def yX8_drop : MethodName := ⟨RX8, "drop", "(I)I"⟩
abbrev cX8_feed : ByteArray := prog_10_method_10_code
def yX8_feed : MethodName := ⟨RX8, "feed", "(JI)I"⟩
abbrev cX8_byteAt : ByteArray := prog_10_method_11_code
def yX8_byteAt : MethodName := ⟨RX8, "byteAt", "(I)I"⟩
abbrev cX8_isLetter : ByteArray := prog_10_method_12_code
def yX8_isLetter : MethodName := ⟨RX8, "isLetter", "(I)Z"⟩
abbrev cX8_isFigure : ByteArray := prog_10_method_13_code
def yX8_isFigure : MethodName := ⟨RX8, "isFigure", "(I)Z"⟩
abbrev cX8_next : ByteArray := prog_10_method_14_code
def yX8_next : MethodName := ⟨RX8, "next", "()V"⟩
abbrev cX8_begin : ByteArray := prog_10_method_15_code
def yX8_begin : MethodName := ⟨RX8, "begin", "()V"⟩
abbrev cX8_bad : ByteArray := prog_10_method_16_code
def yX8_bad : MethodName := ⟨RX8, "bad", "(I)V"⟩
abbrev cX8_must : ByteArray := prog_10_method_17_code
def yX8_must : MethodName := ⟨RX8, "must", "(Z)V"⟩
abbrev cX8_name : ByteArray := prog_10_method_18_code
def yX8_name : MethodName := ⟨RX8, "name", "()J"⟩
abbrev cX8_figures : ByteArray := prog_10_method_19_code
def yX8_figures : MethodName := ⟨RX8, "figures", "()I"⟩
abbrev cX8_number : ByteArray := prog_10_method_20_code
def yX8_number : MethodName := ⟨RX8, "number", "(II)I"⟩
abbrev cX8_kindBy : ByteArray := prog_10_method_21_code
def yX8_kindBy : MethodName := ⟨RX8, "kindBy", "(J)I"⟩
abbrev cX8_mustEnd : ByteArray := prog_10_method_22_code
def yX8_mustEnd : MethodName := ⟨RX8, "mustEnd", "()V"⟩
abbrev cX8_begins : ByteArray := prog_10_method_23_code
def yX8_begins : MethodName := ⟨RX8, "begins", "(II)V"⟩
abbrev cX8_isFreeOf : ByteArray := prog_10_method_24_code
def yX8_isFreeOf : MethodName := ⟨RX8, "isFreeOf", "([II)Z"⟩
abbrev cX8_readTower : ByteArray := prog_10_method_25_code
def yX8_readTower : MethodName := ⟨RX8, "readTower", "()V"⟩
abbrev cX8_readWall : ByteArray := prog_10_method_26_code
def yX8_readWall : MethodName := ⟨RX8, "readWall", "()V"⟩
abbrev cX8_readShop : ByteArray := prog_10_method_27_code
def yX8_readShop : MethodName := ⟨RX8, "readShop", "()V"⟩
abbrev cX8_town : ByteArray := prog_10_method_28_code
def yX8_town : MethodName := ⟨RX8, "town", "()I"⟩
abbrev cX8_fault : ByteArray := prog_10_method_29_code
def yX8_fault : MethodName := ⟨RX8, "fault", "()I"⟩
abbrev cX8_isThere : ByteArray := prog_10_method_30_code
def yX8_isThere : MethodName := ⟨RX8, "isThere", "()Z"⟩
abbrev cX8_isSlot : ByteArray := prog_10_method_31_code
def yX8_isSlot : MethodName := ⟨RX8, "isSlot", "(I)Z"⟩
abbrev cX8_isCell : ByteArray := prog_10_method_32_code
def yX8_isCell : MethodName := ⟨RX8, "isCell", "(I)Z"⟩
abbrev cX8_isLean : ByteArray := prog_10_method_33_code
def yX8_isLean : MethodName := ⟨RX8, "isLean", "(I)Z"⟩
abbrev cX8_isShop : ByteArray := prog_10_method_34_code
def yX8_isShop : MethodName := ⟨RX8, "isShop", "(I)Z"⟩
abbrev cX8_season : ByteArray := prog_10_method_35_code
def yX8_season : MethodName := ⟨RX8, "season", "(I)I"⟩
abbrev cX8_lean : ByteArray := prog_10_method_36_code
def yX8_lean : MethodName := ⟨RX8, "lean", "(II)I"⟩
abbrev cX8_cloud : ByteArray := prog_10_method_37_code
def yX8_cloud : MethodName := ⟨RX8, "cloud", "(II)I"⟩
abbrev cX8_clouds : ByteArray := prog_10_method_38_code
def yX8_clouds : MethodName := ⟨RX8, "clouds", "()I"⟩
abbrev cX8_draw : ByteArray := prog_10_method_39_code
def yX8_draw : MethodName := ⟨RX8, "draw", "(II)I"⟩
abbrev cX8_kindOfSort : ByteArray := prog_10_method_40_code
def yX8_kindOfSort : MethodName := ⟨RX8, "kindOfSort", "(I)I"⟩
abbrev cX8_more : ByteArray := prog_10_method_41_code
def yX8_more : MethodName := ⟨RX8, "more", "(III)I"⟩
abbrev cX8_undo : ByteArray := prog_10_method_42_code
def yX8_undo : MethodName := ⟨RX8, "undo", "()I"⟩
abbrev cX8_sizeOf : ByteArray := prog_10_method_43_code
def yX8_sizeOf : MethodName := ⟨RX8, "sizeOf", "(I)I"⟩
abbrev cX8_layShadow : ByteArray := prog_10_method_44_code
def yX8_layShadow : MethodName := ⟨RX8, "layShadow", "(IIII)V"⟩
abbrev cX8_layNow : ByteArray := prog_10_method_45_code
def yX8_layNow : MethodName := ⟨RX8, "layNow", "(I)V"⟩
abbrev cX8_shadow : ByteArray := prog_10_method_46_code
def yX8_shadow : MethodName := ⟨RX8, "shadow", "(II)I"⟩
abbrev cX8_isOpen : ByteArray := prog_10_method_47_code
def yX8_isOpen : MethodName := ⟨RX8, "isOpen", "(III)Z"⟩
abbrev cX8_kind0 : ByteArray := prog_10_method_48_code
def yX8_kind0 : MethodName := ⟨RX8, "kind0", "(I)I"⟩
abbrev cX8_cellOf : ByteArray := prog_10_method_49_code
def yX8_cellOf : MethodName := ⟨RX8, "cellOf", "(I)I"⟩
abbrev cX8_openBy : ByteArray := prog_10_method_50_code
def yX8_openBy : MethodName := ⟨RX8, "openBy", "(I)I"⟩
abbrev cX8_openAt : ByteArray := prog_10_method_51_code
def yX8_openAt : MethodName := ⟨RX8, "openAt", "(I)I"⟩
abbrev cX8_open : ByteArray := prog_10_method_52_code
def yX8_open : MethodName := ⟨RX8, "open", "(I)I"⟩
abbrev cX8_slotsOf : ByteArray := prog_10_method_53_code
def yX8_slotsOf : MethodName := ⟨RX8, "slotsOf", "(IIIIZ)I"⟩
abbrev cX8_slotsNow : ByteArray := prog_10_method_54_code
def yX8_slotsNow : MethodName := ⟨RX8, "slotsNow", "(I)I"⟩
abbrev cX8_shop : ByteArray := prog_10_method_55_code
def yX8_shop : MethodName := ⟨RX8, "shop", "(II)I"⟩
abbrev cX8_nextCell : ByteArray := prog_10_method_56_code
def yX8_nextCell : MethodName := ⟨RX8, "nextCell", "(II)I"⟩
abbrev cX8_mayBe : ByteArray := prog_10_method_57_code
def yX8_mayBe : MethodName := ⟨RX8, "mayBe", "(I)Z"⟩
abbrev cX8_shopsAt : ByteArray := prog_10_method_58_code
def yX8_shopsAt : MethodName := ⟨RX8, "shopsAt", "(I)I"⟩
abbrev cX8_goOn : ByteArray := prog_10_method_59_code
def yX8_goOn : MethodName := ⟨RX8, "goOn", "(II)Z"⟩
abbrev cX8_soonest : ByteArray := prog_10_method_60_code
def yX8_soonest : MethodName := ⟨RX8, "soonest", "(III)I"⟩
abbrev cX8_lack : ByteArray := prog_10_method_61_code
def yX8_lack : MethodName := ⟨RX8, "lack", "(III)I"⟩
abbrev cX8_check : ByteArray := prog_10_method_62_code
def yX8_check : MethodName := ⟨RX8, "check", "(IIIIII)I"⟩
abbrev cX8_spread : ByteArray := prog_10_method_63_code
def yX8_spread : MethodName := ⟨RX8, "spread", "([ZII)V"⟩
abbrev cX8_thief : ByteArray := prog_10_method_64_code
def yX8_thief : MethodName := ⟨RX8, "thief", "(IIII)I"⟩
abbrev cX8_longest : ByteArray := prog_10_method_65_code
def yX8_longest : MethodName := ⟨RX8, "longest", "(II)I"⟩
abbrev cX8_bills : ByteArray := prog_10_method_66_code
def yX8_bills : MethodName := ⟨RX8, "bills", "(II)I"⟩
abbrev cX8_leans : ByteArray := prog_10_method_67_code
def yX8_leans : MethodName := ⟨RX8, "leans", "(III)I"⟩
abbrev cX8_image : ByteArray := prog_10_method_68_code
def yX8_image : MethodName := ⟨RX8, "image", "(I)I"⟩
abbrev cX8_restore : ByteArray := prog_10_method_69_code
def yX8_restore : MethodName := ⟨RX8, "restore", "(I)I"⟩
abbrev cX8_isOf : ByteArray := prog_10_method_70_code
def yX8_isOf : MethodName := ⟨RX8, "isOf", "(II)Z"⟩
abbrev cX8_kind : ByteArray := prog_10_method_71_code
def yX8_kind : MethodName := ⟨RX8, "kind", "(I)I"⟩
abbrev cX8_as : ByteArray := prog_10_method_72_code
def yX8_as : MethodName := ⟨RX8, "as", "(II)I"⟩
abbrev cX8_began : ByteArray := prog_10_method_73_code
def yX8_began : MethodName := ⟨RX8, "began", "(I)V"⟩
abbrev cX8_plainSize : ByteArray := prog_10_method_74_code
def yX8_plainSize : MethodName := ⟨RX8, "plainSize", "(I)I"⟩
abbrev cX8_sunnySize : ByteArray := prog_10_method_75_code
def yX8_sunnySize : MethodName := ⟨RX8, "sunnySize", "(I)I"⟩
abbrev cX8_markOf : ByteArray := prog_10_method_76_code
def yX8_markOf : MethodName := ⟨RX8, "markOf", "(I)I"⟩
abbrev cX8_askSize : ByteArray := prog_10_method_77_code
def yX8_askSize : MethodName := ⟨RX8, "askSize", "(I)I"⟩
abbrev cX8_ask : ByteArray := prog_10_method_78_code
def yX8_ask : MethodName := ⟨RX8, "ask", "(II)I"⟩
abbrev cX8_trace : ByteArray := prog_10_method_79_code
def yX8_trace : MethodName := ⟨RX8, "trace", "(I)I"⟩
abbrev cX8_count : ByteArray := prog_10_method_80_code
def yX8_count : MethodName := ⟨RX8, "count", "(I)I"⟩
abbrev cX8_status : ByteArray := prog_10_method_81_code
def yX8_status : MethodName := ⟨RX8, "status", "()I"⟩
def RJ9 : String := "java/lang/Math"
abbrev cJ9_abs_0f7a4 : ByteArray := prog_11_method_59_code
def yJ9_abs_0f7a4 : MethodName := ⟨RJ9, "abs", "(I)I"⟩
abbrev cJ9_max_7cf53 : ByteArray := prog_11_method_65_code
def yJ9_max_7cf53 : MethodName := ⟨RJ9, "max", "(II)I"⟩
abbrev cJ9_min_7cf53 : ByteArray := prog_11_method_69_code
def yJ9_min_7cf53 : MethodName := ⟨RJ9, "min", "(II)I"⟩
def RJ0 : String := "java/lang/String"
abbrev cJ0_length_8abf5 : ByteArray := prog_12_method_54_code
def yJ0_length_8abf5 : MethodName := ⟨RJ0, "length", "()I"⟩
abbrev cJ0_charAt_5068e : ByteArray := prog_12_method_56_code
def yJ0_charAt_5068e : MethodName := ⟨RJ0, "charAt", "(I)C"⟩
abbrev cJ0_coder_7d493 : ByteArray := prog_12_method_152_code
def yJ0_coder_7d493 : MethodName := ⟨RJ0, "coder", "()B"⟩
abbrev cJ0_isLatin1_aae02 : ByteArray := prog_12_method_154_code
def yJ0_isLatin1_aae02 : MethodName := ⟨RJ0, "isLatin1", "()Z"⟩
abbrev cJ0_checkIndex_df160 : ByteArray := prog_12_method_155_code
def yJ0_checkIndex_df160 : MethodName := ⟨RJ0, "checkIndex", "(II)V"⟩
def RJ1 : String := "java/lang/StringLatin1"
abbrev cJ1_charAt_3b067 : ByteArray := prog_13_method_2_code
def yJ1_charAt_3b067 : MethodName := ⟨RJ1, "charAt", "([BI)C"⟩
def RJ2 : String := "java/lang/StringUTF16"
abbrev cJ2_getChar_3b067 : ByteArray := prog_14_method_5_code
def yJ2_getChar_3b067 : MethodName := ⟨RJ2, "getChar", "([BI)C"⟩
abbrev cJ2_length_9d52b : ByteArray := prog_14_method_6_code
def yJ2_length_9d52b : MethodName := ⟨RJ2, "length", "([B)I"⟩
abbrev cJ2_charAt_3b067 : ByteArray := prog_14_method_83_code
def yJ2_charAt_3b067 : MethodName := ⟨RJ2, "charAt", "([BI)C"⟩
abbrev cJ2_checkIndex_2214a : ByteArray := prog_14_method_91_code
def yJ2_checkIndex_2214a : MethodName := ⟨RJ2, "checkIndex", "(I[B)V"⟩
def RJ10 : String := "java/lang/System"
def RJ7 : String := "java/util/Arrays"
abbrev cJ7_fill_53178 : ByteArray := prog_16_method_103_code
def yJ7_fill_53178 : MethodName := ⟨RJ7, "fill", "([II)V"⟩
def RJ3 : String := "jdk/internal/util/Preconditions"
abbrev cJ3_checkIndex_8e157 : ByteArray := prog_17_method_11_code
def yJ3_checkIndex_8e157 : MethodName := ⟨RJ3, "checkIndex", "(IILjava/util/function/BiFunction;)I"⟩
def RL : String := "DialTownLaw"
abbrev cL_law : ByteArray := code
abbrev vwCl : List vw_C := [(RX0, TX0, 2), (RX1, TX1, 4), (RX2, TX2, 9), (RX3, TX3, 3), (RX4, TX4, 2), (RX5, TX5, 14), (RX6, TX6, 7), (RX7, TX7, 11), (RX8, TX8, 27)]
end
section
/-! the graph of objects, by numbers, and the rows that hold code -/
abbrev g_X : Type := Nat × Nat × Int32 × Int64 × List Nat
abbrev g_I : Type := Instr × Nat × g_X
abbrev g_E : Type := (Nat → Int32) × Nat
def g_lk {α : Type} : List (Nat × α) → Nat → Option α
  | [], _ => none
  | q :: l, k => bif Nat.beq q.1 k then some q.2 else g_lk l k
def g_at0 {α : Type} : List α → Nat → α → α
  | [], _, d => d
  | a :: _, 0, _ => a
  | _ :: l, k + 1, d => g_at0 l k d
def g_N : Nat := 84
def g_kdl : List Nat := [7, 3, 100, 100, 103, 100, 100, 100, 100, 100, 100, 100, 100, 4, 100, 5, 100, 100, 100, 100, 100, 5, 100, 100, 100, 100, 100, 102, 5, 100, 100, 100, 100, 100, 5, 100, 100, 100, 100, 100, 2, 1, 100, 100, 100, 6, 100, 103, 100, 100, 100, 100, 100, 100, 100, 100, 103, 100, 100, 100, 100, 100, 100, 100, 100, 100, 0, 100, 8, 100, 100, 100, 100, 100, 100, 101, 101, 101, 101, 101, 100, 101, 100, 100]
def g_lnl : List Nat := [0, 0, 8, 8, 8, 40, 40, 40, 40, 40, 40, 40, 40, 0, 400, 0, 81, 73, 8, 8, 8, 0, 81, 73, 8, 8, 8, 2, 0, 81, 73, 8, 8, 8, 0, 81, 73, 8, 8, 8, 0, 0, 9, 73, 81, 0, 81, 8, 81, 81, 81, 81, 81, 81, 81, 81, 8, 73, 73, 73, 73, 73, 73, 73, 73, 2048, 0, 16, 0, 8, 8, 320, 185, 185, 400, 81, 20736, 20736, 5913, 5913, 81, 2, 370, 16]
def g_rfl : List (List Bool) := [[true, false], [true, false, true, true], [true, true, false, false, false, false, false, false, false], [true, true, true], [true, false], [false, false, false, false, false, false, false, false, false, true, true, true, true, true], [true, true, true, true, false, false, false], [true, true, true, true, true, true, true, true, true, false, false], [false, false, true, true, true, true, true, true, false, false, false, false, false, false, false, false, false, true, true, true, true, true, true, true, true, true, false]]
def g_bzl : List (List Bool) := [[false, false], [false, false, false, false], [false, false, false, false, false, false, false, false, false], [false, false, false], [false, false], [true, false, false, false, false, false, false, false, false, false, false, false, false, false], [false, false, false, false, false, false, false], [false, false, false, false, false, false, false, false, false, false, false], [false, false, false, false, false, false, false, false, false, false, false, false, false, false, false, false, false, false, false, false, false, false, false, false, false, false, false]]
def g_tgl : List (List Nat) := [[67, 0], [42, 0, 43, 44], [13, 21, 0, 0, 0, 0, 0, 0, 0], [2, 3, 4], [14, 0], [], [46, 47, 56, 65, 0, 0, 0], [1, 13, 15, 21, 27, 40, 41, 45, 66, 0, 0], [0, 0, 69, 70, 71, 72, 73, 74, 0, 0, 0, 0, 0, 0, 0, 0, 0, 75, 76, 77, 78, 79, 80, 81, 82, 83, 0]]
def g_rol : List (List Int32) := [[0, 1, 0, -1, 0], [-1, 0, 1, 0, 0], [1, 4, 2, 3, 5], [1, 3, 7, 15, 17, 49], [10, 11, 11, 12, 13, 14], [20, 21, 22, 24, 23, 23], [], [], [], [], [116, 111, 119, 101, 114], [119, 97, 108, 108], [115, 104, 111, 112], [100, 97, 114, 107], [115, 117, 110, 110, 121], [110, 111, 111, 110], [109, 97, 115, 115], [108, 97, 109, 112]]
def g_kd (a : Nat) : Nat := g_at0 g_kdl a 999
def g_ln (a : Nat) : Nat := g_at0 g_lnl a 0
def g_rf (ci k : Nat) : Bool := g_at0 (g_at0 g_rfl ci []) k false
def g_bz (ci k : Nat) : Bool := g_at0 (g_at0 g_bzl ci []) k false
def g_tg (ci k a : Nat) : Nat := match ci with
  | 5 => a + (k - 8)
  | _ => g_at0 (g_at0 g_tgl ci []) k 0
def g_ta (a j : Nat) : Nat := match a with
  | 27 => 28 + 6 * j
  | _ => a + 1 + j
def g_roL (q : Nat) : List Int32 := g_at0 g_rol q []
def g_ro (E : g_E) (q j : Nat) : Int32 := match q with
  | 99 => E.1 j
  | _ => g_at0 (g_roL q) j 0
def g_rn (E : g_E) (q : Nat) : Nat := match q with
  | 99 => E.2
  | _ => (g_roL q).length
def g_ty (k : Nat) : FieldType := match k with
  | 0 => .int
  | 1 => .boolean
  | 2 => .char
  | _ => .byte
def g_c (c : Jvm.ClassFile.Cond) (x y : Int32) : Prop := match c with
  | .eq => x = y
  | .ne => ¬ x = y
  | .lt => x < y
  | .ge => y ≤ x
  | .gt => y < x
  | .le => x ≤ y
end
section
/-! the methods that the small machine runs, by number; each instruction with what it links to -/
def g_k0 : List (Nat × g_I) := [(3, .dup, 1, (0, 0, 0, 0, [])), (7, .astore_n 1, 1, (0, 0, 0, 0, [])), (11, .dup, 1, (0, 0, 0, 0, [])), (15, .astore_n 2, 1, (0, 0, 0, 0, [])), (16, .iconst 0, 1, (0, 0, 0, 0, [])), (17, .istore_n 3, 1, (0, 0, 0, 0, [])), (18, .iload_n 3, 1, (0, 0, 0, 0, [])), (19, .aload_n 0, 1, (0, 0, 0, 0, [])), (20, .arraylength, 1, (0, 0, 0, 0, [])), (21, .bipush 7, 2, (0, 0, 7, 0, [])), (23, .isub, 1, (0, 0, 0, 0, [])), (24, .if_icmp .gt 1152, 3, (1176, 0, 0, 0, [])), (27, .aload_n 0, 1, (0, 0, 0, 0, [])), (28, .iload_n 3, 1, (0, 0, 0, 0, [])), (29, .iaload, 1, (0, 0, 0, 0, [])), (30, .bipush 31, 2, (0, 0, 31, 0, [])), (32, .iand, 1, (0, 0, 0, 0, [])), (33, .tableswitch 1137 0 29 #[135, 178, 221, 284, 307, 370, 383, 396, 419, 452, 485, 518, 561, 574, 607, 630, 663, 706, 781, 834, 867, 900, 943, 966, 989, 1012, 1045, 1078, 1101, 1124], 135, (1170, 0, 0, 0, [168, 211, 254, 317, 340, 403, 416, 429, 452, 485, 518, 551, 594, 607, 640, 663, 696, 739, 814, 867, 900, 933, 976, 999, 1022, 1045, 1078, 1111, 1134, 1157])), (168, .aload_n 1, 1, (0, 0, 0, 0, [])), (169, .aload_n 0, 1, (0, 0, 0, 0, [])), (170, .iload_n 3, 1, (0, 0, 0, 0, [])), (171, .iconst 1, 1, (0, 0, 1, 0, [])), (172, .iadd, 1, (0, 0, 0, 0, [])), (173, .iaload, 1, (0, 0, 0, 0, [])), (174, .aload_n 0, 1, (0, 0, 0, 0, [])), (175, .iload_n 3, 1, (0, 0, 0, 0, [])), (176, .iconst 2, 1, (0, 0, 2, 0, [])), (177, .iadd, 1, (0, 0, 0, 0, [])), (178, .iaload, 1, (0, 0, 0, 0, [])), (179, .aload_n 0, 1, (0, 0, 0, 0, [])), (180, .iload_n 3, 1, (0, 0, 0, 0, [])), (181, .iconst 3, 1, (0, 0, 3, 0, [])), (182, .iadd, 1, (0, 0, 0, 0, [])), (183, .iaload, 1, (0, 0, 0, 0, [])), (184, .invokevirtual 13, 3, (69, 3, 0, 0, [])), (187, .aload_n 2, 1, (0, 0, 0, 0, [])), (188, .aload_n 0, 1, (0, 0, 0, 0, [])), (189, .iload_n 3, 1, (0, 0, 0, 0, [])), (190, .iconst 1, 1, (0, 0, 1, 0, [])), (191, .iadd, 1, (0, 0, 0, 0, [])), (192, .iaload, 1, (0, 0, 0, 0, [])), (193, .aload_n 0, 1, (0, 0, 0, 0, [])), (194, .iload_n 3, 1, (0, 0, 0, 0, [])), (195, .iconst 2, 1, (0, 0, 2, 0, [])), (196, .iadd, 1, (0, 0, 0, 0, [])), (197, .iaload, 1, (0, 0, 0, 0, [])), (198, .aload_n 0, 1, (0, 0, 0, 0, [])), (199, .iload_n 3, 1, (0, 0, 0, 0, [])), (200, .iconst 3, 1, (0, 0, 3, 0, [])), (201, .iadd, 1, (0, 0, 0, 0, [])), (202, .iaload, 1, (0, 0, 0, 0, [])), (203, .invokevirtual 17, 3, (110, 3, 0, 0, [])), (206, .if_icmp .eq 964, 3, (1170, 0, 0, 0, [])), (209, .iconst 0, 1, (0, 0, 0, 0, [])), (210, .ireturn, 1, (1, 0, 0, 0, [])), (211, .aload_n 1, 1, (0, 0, 0, 0, [])), (212, .aload_n 0, 1, (0, 0, 0, 0, [])), (213, .iload_n 3, 1, (0, 0, 0, 0, [])), (214, .iconst 1, 1, (0, 0, 1, 0, [])), (215, .iadd, 1, (0, 0, 0, 0, [])), (216, .iaload, 1, (0, 0, 0, 0, [])), (217, .aload_n 0, 1, (0, 0, 0, 0, [])), (218, .iload_n 3, 1, (0, 0, 0, 0, [])), (219, .iconst 2, 1, (0, 0, 2, 0, [])), (220, .iadd, 1, (0, 0, 0, 0, [])), (221, .iaload, 1, (0, 0, 0, 0, [])), (222, .aload_n 0, 1, (0, 0, 0, 0, [])), (223, .iload_n 3, 1, (0, 0, 0, 0, [])), (224, .iconst 3, 1, (0, 0, 3, 0, [])), (225, .iadd, 1, (0, 0, 0, 0, [])), (226, .iaload, 1, (0, 0, 0, 0, [])), (227, .invokevirtual 18, 3, (70, 3, 0, 0, [])), (230, .aload_n 2, 1, (0, 0, 0, 0, [])), (231, .aload_n 0, 1, (0, 0, 0, 0, [])), (232, .iload_n 3, 1, (0, 0, 0, 0, [])), (233, .iconst 1, 1, (0, 0, 1, 0, [])), (234, .iadd, 1, (0, 0, 0, 0, [])), (235, .iaload, 1, (0, 0, 0, 0, [])), (236, .aload_n 0, 1, (0, 0, 0, 0, [])), (237, .iload_n 3, 1, (0, 0, 0, 0, [])), (238, .iconst 2, 1, (0, 0, 2, 0, [])), (239, .iadd, 1, (0, 0, 0, 0, [])), (240, .iaload, 1, (0, 0, 0, 0, [])), (241, .aload_n 0, 1, (0, 0, 0, 0, [])), (242, .iload_n 3, 1, (0, 0, 0, 0, [])), (243, .iconst 3, 1, (0, 0, 3, 0, [])), (244, .iadd, 1, (0, 0, 0, 0, [])), (245, .iaload, 1, (0, 0, 0, 0, [])), (246, .invokevirtual 21, 3, (111, 3, 0, 0, [])), (249, .if_icmp .eq 921, 3, (1170, 0, 0, 0, [])), (252, .iconst 0, 1, (0, 0, 0, 0, [])), (253, .ireturn, 1, (1, 0, 0, 0, [])), (254, .aload_n 1, 1, (0, 0, 0, 0, [])), (255, .aload_n 0, 1, (0, 0, 0, 0, [])), (256, .iload_n 3, 1, (0, 0, 0, 0, [])), (257, .iconst 1, 1, (0, 0, 1, 0, [])), (258, .iadd, 1, (0, 0, 0, 0, [])), (259, .iaload, 1, (0, 0, 0, 0, [])), (260, .aload_n 0, 1, (0, 0, 0, 0, [])), (261, .iload_n 3, 1, (0, 0, 0, 0, [])), (262, .iconst 2, 1, (0, 0, 2, 0, [])), (263, .iadd, 1, (0, 0, 0, 0, [])), (264, .iaload, 1, (0, 0, 0, 0, [])), (265, .aload_n 0, 1, (0, 0, 0, 0, [])), (266, .iload_n 3, 1, (0, 0, 0, 0, [])), (267, .iconst 3, 1, (0, 0, 3, 0, [])), (268, .iadd, 1, (0, 0, 0, 0, [])), (269, .iaload, 1, (0, 0, 0, 0, [])), (270, .aload_n 0, 1, (0, 0, 0, 0, [])), (271, .iload_n 3, 1, (0, 0, 0, 0, [])), (272, .iconst 4, 1, (0, 0, 4, 0, [])), (273, .iadd, 1, (0, 0, 0, 0, [])), (274, .iaload, 1, (0, 0, 0, 0, [])), (275, .aload_n 0, 1, (0, 0, 0, 0, [])), (276, .iload_n 3, 1, (0, 0, 0, 0, [])), (277, .iconst 5, 1, (0, 0, 5, 0, [])), (278, .iadd, 1, (0, 0, 0, 0, [])), (279, .iaload, 1, (0, 0, 0, 0, [])), (280, .invokevirtual 22, 3, (71, 5, 0, 0, [])), (283, .aload_n 2, 1, (0, 0, 0, 0, [])), (284, .aload_n 0, 1, (0, 0, 0, 0, [])), (285, .iload_n 3, 1, (0, 0, 0, 0, [])), (286, .iconst 1, 1, (0, 0, 1, 0, [])), (287, .iadd, 1, (0, 0, 0, 0, [])), (288, .iaload, 1, (0, 0, 0, 0, [])), (289, .aload_n 0, 1, (0, 0, 0, 0, [])), (290, .iload_n 3, 1, (0, 0, 0, 0, [])), (291, .iconst 2, 1, (0, 0, 2, 0, [])), (292, .iadd, 1, (0, 0, 0, 0, [])), (293, .iaload, 1, (0, 0, 0, 0, [])), (294, .aload_n 0, 1, (0, 0, 0, 0, [])), (295, .iload_n 3, 1, (0, 0, 0, 0, [])), (296, .iconst 3, 1, (0, 0, 3, 0, [])), (297, .iadd, 1, (0, 0, 0, 0, [])), (298, .iaload, 1, (0, 0, 0, 0, [])), (299, .aload_n 0, 1, (0, 0, 0, 0, [])), (300, .iload_n 3, 1, (0, 0, 0, 0, [])), (301, .iconst 4, 1, (0, 0, 4, 0, [])), (302, .iadd, 1, (0, 0, 0, 0, [])), (303, .iaload, 1, (0, 0, 0, 0, [])), (304, .aload_n 0, 1, (0, 0, 0, 0, [])), (305, .iload_n 3, 1, (0, 0, 0, 0, [])), (306, .iconst 5, 1, (0, 0, 5, 0, [])), (307, .iadd, 1, (0, 0, 0, 0, [])), (308, .iaload, 1, (0, 0, 0, 0, [])), (309, .invokevirtual 26, 3, (112, 5, 0, 0, [])), (312, .if_icmp .eq 858, 3, (1170, 0, 0, 0, [])), (315, .iconst 0, 1, (0, 0, 0, 0, [])), (316, .ireturn, 1, (1, 0, 0, 0, [])), (317, .aload_n 1, 1, (0, 0, 0, 0, [])), (318, .aload_n 0, 1, (0, 0, 0, 0, [])), (319, .iload_n 3, 1, (0, 0, 0, 0, [])), (320, .iconst 1, 1, (0, 0, 1, 0, [])), (321, .iadd, 1, (0, 0, 0, 0, [])), (322, .iaload, 1, (0, 0, 0, 0, [])), (323, .invokevirtual 27, 3, (72, 1, 0, 0, [])), (326, .aload_n 2, 1, (0, 0, 0, 0, [])), (327, .aload_n 0, 1, (0, 0, 0, 0, [])), (328, .iload_n 3, 1, (0, 0, 0, 0, [])), (329, .iconst 1, 1, (0, 0, 1, 0, [])), (330, .iadd, 1, (0, 0, 0, 0, [])), (331, .iaload, 1, (0, 0, 0, 0, [])), (332, .invokevirtual 31, 3, (113, 1, 0, 0, [])), (335, .if_icmp .eq 835, 3, (1170, 0, 0, 0, [])), (338, .iconst 0, 1, (0, 0, 0, 0, [])), (339, .ireturn, 1, (1, 0, 0, 0, [])), (340, .aload_n 1, 1, (0, 0, 0, 0, [])), (341, .aload_n 0, 1, (0, 0, 0, 0, [])), (342, .iload_n 3, 1, (0, 0, 0, 0, [])), (343, .iconst 1, 1, (0, 0, 1, 0, [])), (344, .iadd, 1, (0, 0, 0, 0, [])), (345, .iaload, 1, (0, 0, 0, 0, [])), (346, .i2l, 1, (0, 0, 0, 0, [])), (347, .bipush 32, 2, (0, 0, 32, 0, [])), (349, .lshl, 1, (0, 0, 0, 0, [])), (350, .aload_n 0, 1, (0, 0, 0, 0, [])), (351, .iload_n 3, 1, (0, 0, 0, 0, [])), (352, .iconst 2, 1, (0, 0, 2, 0, [])), (353, .iadd, 1, (0, 0, 0, 0, [])), (354, .iaload, 1, (0, 0, 0, 0, [])), (355, .i2l, 1, (0, 0, 0, 0, [])), (356, .ldc2_w 32, 3, (0, 0, 0, 4294967295, [])), (359, .land, 1, (0, 0, 0, 0, [])), (360, .lor, 1, (0, 0, 0, 0, [])), (361, .aload_n 0, 1, (0, 0, 0, 0, [])), (362, .iload_n 3, 1, (0, 0, 0, 0, [])), (363, .iconst 3, 1, (0, 0, 3, 0, [])), (364, .iadd, 1, (0, 0, 0, 0, [])), (365, .iaload, 1, (0, 0, 0, 0, [])), (366, .invokevirtual 34, 3, (73, 2, 0, 0, [])), (369, .aload_n 2, 1, (0, 0, 0, 0, [])), (370, .aload_n 0, 1, (0, 0, 0, 0, [])), (371, .iload_n 3, 1, (0, 0, 0, 0, [])), (372, .iconst 1, 1, (0, 0, 1, 0, [])), (373, .iadd, 1, (0, 0, 0, 0, [])), (374, .iaload, 1, (0, 0, 0, 0, [])), (375, .i2l, 1, (0, 0, 0, 0, [])), (376, .bipush 32, 2, (0, 0, 32, 0, [])), (378, .lshl, 1, (0, 0, 0, 0, [])), (379, .aload_n 0, 1, (0, 0, 0, 0, [])), (380, .iload_n 3, 1, (0, 0, 0, 0, [])), (381, .iconst 2, 1, (0, 0, 2, 0, [])), (382, .iadd, 1, (0, 0, 0, 0, [])), (383, .iaload, 1, (0, 0, 0, 0, [])), (384, .i2l, 1, (0, 0, 0, 0, [])), (385, .ldc2_w 32, 3, (0, 0, 0, 4294967295, [])), (388, .land, 1, (0, 0, 0, 0, [])), (389, .lor, 1, (0, 0, 0, 0, [])), (390, .aload_n 0, 1, (0, 0, 0, 0, [])), (391, .iload_n 3, 1, (0, 0, 0, 0, [])), (392, .iconst 3, 1, (0, 0, 3, 0, [])), (393, .iadd, 1, (0, 0, 0, 0, [])), (394, .iaload, 1, (0, 0, 0, 0, [])), (395, .invokevirtual 38, 3, (114, 2, 0, 0, [])), (398, .if_icmp .eq 772, 3, (1170, 0, 0, 0, [])), (401, .iconst 0, 1, (0, 0, 0, 0, [])), (402, .ireturn, 1, (1, 0, 0, 0, [])), (403, .aload_n 1, 1, (0, 0, 0, 0, [])), (404, .invokevirtual 39, 3, (74, 0, 0, 0, [])), (407, .aload_n 2, 1, (0, 0, 0, 0, [])), (408, .invokevirtual 43, 3, (132, 0, 0, 0, [])), (411, .if_icmp .eq 759, 3, (1170, 0, 0, 0, [])), (414, .iconst 0, 1, (0, 0, 0, 0, [])), (415, .ireturn, 1, (1, 0, 0, 0, [])), (416, .aload_n 1, 1, (0, 0, 0, 0, [])), (417, .invokevirtual 44, 3, (75, 0, 0, 0, [])), (420, .aload_n 2, 1, (0, 0, 0, 0, [])), (421, .invokevirtual 47, 3, (133, 0, 0, 0, [])), (424, .if_icmp .eq 746, 3, (1170, 0, 0, 0, [])), (427, .iconst 0, 1, (0, 0, 0, 0, [])), (428, .ireturn, 1, (1, 0, 0, 0, [])), (429, .aload_n 1, 1, (0, 0, 0, 0, [])), (430, .aload_n 0, 1, (0, 0, 0, 0, [])), (431, .iload_n 3, 1, (0, 0, 0, 0, [])), (432, .iconst 1, 1, (0, 0, 1, 0, [])), (433, .iadd, 1, (0, 0, 0, 0, [])), (434, .iaload, 1, (0, 0, 0, 0, [])), (435, .invokevirtual 48, 3, (76, 1, 0, 0, [])), (438, .aload_n 2, 1, (0, 0, 0, 0, [])), (439, .aload_n 0, 1, (0, 0, 0, 0, [])), (440, .iload_n 3, 1, (0, 0, 0, 0, [])), (441, .iconst 1, 1, (0, 0, 1, 0, [])), (442, .iadd, 1, (0, 0, 0, 0, [])), (443, .iaload, 1, (0, 0, 0, 0, [])), (444, .invokevirtual 51, 3, (139, 1, 0, 0, [])), (447, .if_icmp .eq 723, 3, (1170, 0, 0, 0, [])), (450, .iconst 0, 1, (0, 0, 0, 0, [])), (451, .ireturn, 1, (1, 0, 0, 0, [])), (452, .aload_n 1, 1, (0, 0, 0, 0, [])), (453, .aload_n 0, 1, (0, 0, 0, 0, [])), (454, .iload_n 3, 1, (0, 0, 0, 0, [])), (455, .iconst 1, 1, (0, 0, 1, 0, [])), (456, .iadd, 1, (0, 0, 0, 0, [])), (457, .iaload, 1, (0, 0, 0, 0, [])), (458, .aload_n 0, 1, (0, 0, 0, 0, [])), (459, .iload_n 3, 1, (0, 0, 0, 0, [])), (460, .iconst 2, 1, (0, 0, 2, 0, [])), (461, .iadd, 1, (0, 0, 0, 0, [])), (462, .iaload, 1, (0, 0, 0, 0, [])), (463, .invokevirtual 52, 3, (77, 2, 0, 0, [])), (466, .aload_n 2, 1, (0, 0, 0, 0, [])), (467, .aload_n 0, 1, (0, 0, 0, 0, [])), (468, .iload_n 3, 1, (0, 0, 0, 0, [])), (469, .iconst 1, 1, (0, 0, 1, 0, [])), (470, .iadd, 1, (0, 0, 0, 0, [])), (471, .iaload, 1, (0, 0, 0, 0, [])), (472, .aload_n 0, 1, (0, 0, 0, 0, [])), (473, .iload_n 3, 1, (0, 0, 0, 0, [])), (474, .iconst 2, 1, (0, 0, 2, 0, [])), (475, .iadd, 1, (0, 0, 0, 0, [])), (476, .iaload, 1, (0, 0, 0, 0, [])), (477, .invokevirtual 56, 3, (140, 2, 0, 0, [])), (480, .if_icmp .eq 690, 3, (1170, 0, 0, 0, [])), (483, .iconst 0, 1, (0, 0, 0, 0, [])), (484, .ireturn, 1, (1, 0, 0, 0, [])), (485, .aload_n 1, 1, (0, 0, 0, 0, [])), (486, .aload_n 0, 1, (0, 0, 0, 0, [])), (487, .iload_n 3, 1, (0, 0, 0, 0, [])), (488, .iconst 1, 1, (0, 0, 1, 0, [])), (489, .iadd, 1, (0, 0, 0, 0, [])), (490, .iaload, 1, (0, 0, 0, 0, [])), (491, .aload_n 0, 1, (0, 0, 0, 0, [])), (492, .iload_n 3, 1, (0, 0, 0, 0, [])), (493, .iconst 2, 1, (0, 0, 2, 0, [])), (494, .iadd, 1, (0, 0, 0, 0, [])), (495, .iaload, 1, (0, 0, 0, 0, [])), (496, .invokevirtual 57, 3, (78, 2, 0, 0, [])), (499, .aload_n 2, 1, (0, 0, 0, 0, [])), (500, .aload_n 0, 1, (0, 0, 0, 0, [])), (501, .iload_n 3, 1, (0, 0, 0, 0, [])), (502, .iconst 1, 1, (0, 0, 1, 0, [])), (503, .iadd, 1, (0, 0, 0, 0, [])), (504, .iaload, 1, (0, 0, 0, 0, [])), (505, .aload_n 0, 1, (0, 0, 0, 0, [])), (506, .iload_n 3, 1, (0, 0, 0, 0, [])), (507, .iconst 2, 1, (0, 0, 2, 0, [])), (508, .iadd, 1, (0, 0, 0, 0, [])), (509, .iaload, 1, (0, 0, 0, 0, [])), (510, .invokevirtual 60, 3, (141, 2, 0, 0, [])), (513, .if_icmp .eq 657, 3, (1170, 0, 0, 0, [])), (516, .iconst 0, 1, (0, 0, 0, 0, [])), (517, .ireturn, 1, (1, 0, 0, 0, [])), (518, .aload_n 1, 1, (0, 0, 0, 0, [])), (519, .aload_n 0, 1, (0, 0, 0, 0, [])), (520, .iload_n 3, 1, (0, 0, 0, 0, [])), (521, .iconst 1, 1, (0, 0, 1, 0, [])), (522, .iadd, 1, (0, 0, 0, 0, [])), (523, .iaload, 1, (0, 0, 0, 0, [])), (524, .aload_n 0, 1, (0, 0, 0, 0, [])), (525, .iload_n 3, 1, (0, 0, 0, 0, [])), (526, .iconst 2, 1, (0, 0, 2, 0, [])), (527, .iadd, 1, (0, 0, 0, 0, [])), (528, .iaload, 1, (0, 0, 0, 0, [])), (529, .invokevirtual 61, 3, (79, 2, 0, 0, [])), (532, .aload_n 2, 1, (0, 0, 0, 0, [])), (533, .aload_n 0, 1, (0, 0, 0, 0, [])), (534, .iload_n 3, 1, (0, 0, 0, 0, [])), (535, .iconst 1, 1, (0, 0, 1, 0, [])), (536, .iadd, 1, (0, 0, 0, 0, [])), (537, .iaload, 1, (0, 0, 0, 0, [])), (538, .aload_n 0, 1, (0, 0, 0, 0, [])), (539, .iload_n 3, 1, (0, 0, 0, 0, [])), (540, .iconst 2, 1, (0, 0, 2, 0, [])), (541, .iadd, 1, (0, 0, 0, 0, [])), (542, .iaload, 1, (0, 0, 0, 0, [])), (543, .invokevirtual 64, 3, (143, 2, 0, 0, [])), (546, .if_icmp .eq 624, 3, (1170, 0, 0, 0, [])), (549, .iconst 0, 1, (0, 0, 0, 0, [])), (550, .ireturn, 1, (1, 0, 0, 0, [])), (551, .aload_n 1, 1, (0, 0, 0, 0, [])), (552, .aload_n 0, 1, (0, 0, 0, 0, [])), (553, .iload_n 3, 1, (0, 0, 0, 0, [])), (554, .iconst 1, 1, (0, 0, 1, 0, [])), (555, .iadd, 1, (0, 0, 0, 0, [])), (556, .iaload, 1, (0, 0, 0, 0, [])), (557, .aload_n 0, 1, (0, 0, 0, 0, [])), (558, .iload_n 3, 1, (0, 0, 0, 0, [])), (559, .iconst 2, 1, (0, 0, 2, 0, [])), (560, .iadd, 1, (0, 0, 0, 0, [])), (561, .iaload, 1, (0, 0, 0, 0, [])), (562, .aload_n 0, 1, (0, 0, 0, 0, [])), (563, .iload_n 3, 1, (0, 0, 0, 0, [])), (564, .iconst 3, 1, (0, 0, 3, 0, [])), (565, .iadd, 1, (0, 0, 0, 0, [])), (566, .iaload, 1, (0, 0, 0, 0, [])), (567, .invokevirtual 65, 3, (80, 3, 0, 0, [])), (570, .aload_n 2, 1, (0, 0, 0, 0, [])), (571, .aload_n 0, 1, (0, 0, 0, 0, [])), (572, .iload_n 3, 1, (0, 0, 0, 0, [])), (573, .iconst 1, 1, (0, 0, 1, 0, [])), (574, .iadd, 1, (0, 0, 0, 0, [])), (575, .iaload, 1, (0, 0, 0, 0, [])), (576, .aload_n 0, 1, (0, 0, 0, 0, [])), (577, .iload_n 3, 1, (0, 0, 0, 0, [])), (578, .iconst 2, 1, (0, 0, 2, 0, [])), (579, .iadd, 1, (0, 0, 0, 0, [])), (580, .iaload, 1, (0, 0, 0, 0, [])), (581, .aload_n 0, 1, (0, 0, 0, 0, [])), (582, .iload_n 3, 1, (0, 0, 0, 0, [])), (583, .iconst 3, 1, (0, 0, 3, 0, [])), (584, .iadd, 1, (0, 0, 0, 0, [])), (585, .iaload, 1, (0, 0, 0, 0, [])), (586, .invokevirtual 68, 3, (145, 3, 0, 0, [])), (589, .if_icmp .eq 581, 3, (1170, 0, 0, 0, [])), (592, .iconst 0, 1, (0, 0, 0, 0, [])), (593, .ireturn, 1, (1, 0, 0, 0, [])), (594, .aload_n 1, 1, (0, 0, 0, 0, [])), (595, .invokevirtual 69, 3, (81, 0, 0, 0, [])), (598, .aload_n 2, 1, (0, 0, 0, 0, [])), (599, .invokevirtual 72, 3, (146, 0, 0, 0, [])), (602, .if_icmp .eq 568, 3, (1170, 0, 0, 0, [])), (605, .iconst 0, 1, (0, 0, 0, 0, [])), (606, .ireturn, 1, (1, 0, 0, 0, [])), (607, .aload_n 1, 1, (0, 0, 0, 0, [])), (608, .aload_n 0, 1, (0, 0, 0, 0, [])), (609, .iload_n 3, 1, (0, 0, 0, 0, [])), (610, .iconst 1, 1, (0, 0, 1, 0, [])), (611, .iadd, 1, (0, 0, 0, 0, [])), (612, .iaload, 1, (0, 0, 0, 0, [])), (613, .aload_n 0, 1, (0, 0, 0, 0, [])), (614, .iload_n 3, 1, (0, 0, 0, 0, [])), (615, .iconst 2, 1, (0, 0, 2, 0, [])), (616, .iadd, 1, (0, 0, 0, 0, [])), (617, .iaload, 1, (0, 0, 0, 0, [])), (618, .invokevirtual 73, 3, (82, 2, 0, 0, [])), (621, .aload_n 2, 1, (0, 0, 0, 0, [])), (622, .aload_n 0, 1, (0, 0, 0, 0, [])), (623, .iload_n 3, 1, (0, 0, 0, 0, [])), (624, .iconst 1, 1, (0, 0, 1, 0, [])), (625, .iadd, 1, (0, 0, 0, 0, [])), (626, .iaload, 1, (0, 0, 0, 0, [])), (627, .aload_n 0, 1, (0, 0, 0, 0, [])), (628, .iload_n 3, 1, (0, 0, 0, 0, [])), (629, .iconst 2, 1, (0, 0, 2, 0, [])), (630, .iadd, 1, (0, 0, 0, 0, [])), (631, .iaload, 1, (0, 0, 0, 0, [])), (632, .invokevirtual 76, 3, (150, 2, 0, 0, [])), (635, .if_icmp .eq 535, 3, (1170, 0, 0, 0, [])), (638, .iconst 0, 1, (0, 0, 0, 0, [])), (639, .ireturn, 1, (1, 0, 0, 0, [])), (640, .aload_n 1, 1, (0, 0, 0, 0, [])), (641, .aload_n 0, 1, (0, 0, 0, 0, [])), (642, .iload_n 3, 1, (0, 0, 0, 0, [])), (643, .iconst 1, 1, (0, 0, 1, 0, [])), (644, .iadd, 1, (0, 0, 0, 0, [])), (645, .iaload, 1, (0, 0, 0, 0, [])), (646, .invokevirtual 77, 3, (83, 1, 0, 0, [])), (649, .aload_n 2, 1, (0, 0, 0, 0, [])), (650, .aload_n 0, 1, (0, 0, 0, 0, [])), (651, .iload_n 3, 1, (0, 0, 0, 0, [])), (652, .iconst 1, 1, (0, 0, 1, 0, [])), (653, .iadd, 1, (0, 0, 0, 0, [])), (654, .iaload, 1, (0, 0, 0, 0, [])), (655, .invokevirtual 80, 3, (156, 1, 0, 0, [])), (658, .if_icmp .eq 512, 3, (1170, 0, 0, 0, [])), (661, .iconst 0, 1, (0, 0, 0, 0, [])), (662, .ireturn, 1, (1, 0, 0, 0, [])), (663, .aload_n 1, 1, (0, 0, 0, 0, [])), (664, .aload_n 0, 1, (0, 0, 0, 0, [])), (665, .iload_n 3, 1, (0, 0, 0, 0, [])), (666, .iconst 1, 1, (0, 0, 1, 0, [])), (667, .iadd, 1, (0, 0, 0, 0, [])), (668, .iaload, 1, (0, 0, 0, 0, [])), (669, .aload_n 0, 1, (0, 0, 0, 0, [])), (670, .iload_n 3, 1, (0, 0, 0, 0, [])), (671, .iconst 2, 1, (0, 0, 2, 0, [])), (672, .iadd, 1, (0, 0, 0, 0, [])), (673, .iaload, 1, (0, 0, 0, 0, [])), (674, .invokevirtual 81, 3, (84, 2, 0, 0, [])), (677, .aload_n 2, 1, (0, 0, 0, 0, [])), (678, .aload_n 0, 1, (0, 0, 0, 0, [])), (679, .iload_n 3, 1, (0, 0, 0, 0, [])), (680, .iconst 1, 1, (0, 0, 1, 0, [])), (681, .iadd, 1, (0, 0, 0, 0, [])), (682, .iaload, 1, (0, 0, 0, 0, [])), (683, .aload_n 0, 1, (0, 0, 0, 0, [])), (684, .iload_n 3, 1, (0, 0, 0, 0, [])), (685, .iconst 2, 1, (0, 0, 2, 0, [])), (686, .iadd, 1, (0, 0, 0, 0, [])), (687, .iaload, 1, (0, 0, 0, 0, [])), (688, .invokevirtual 84, 3, (159, 2, 0, 0, [])), (691, .if_icmp .eq 479, 3, (1170, 0, 0, 0, [])), (694, .iconst 0, 1, (0, 0, 0, 0, [])), (695, .ireturn, 1, (1, 0, 0, 0, [])), (696, .aload_n 1, 1, (0, 0, 0, 0, [])), (697, .aload_n 0, 1, (0, 0, 0, 0, [])), (698, .iload_n 3, 1, (0, 0, 0, 0, [])), (699, .iconst 1, 1, (0, 0, 1, 0, [])), (700, .iadd, 1, (0, 0, 0, 0, [])), (701, .iaload, 1, (0, 0, 0, 0, [])), (702, .aload_n 0, 1, (0, 0, 0, 0, [])), (703, .iload_n 3, 1, (0, 0, 0, 0, [])), (704, .iconst 2, 1, (0, 0, 2, 0, [])), (705, .iadd, 1, (0, 0, 0, 0, [])), (706, .iaload, 1, (0, 0, 0, 0, [])), (707, .aload_n 0, 1, (0, 0, 0, 0, [])), (708, .iload_n 3, 1, (0, 0, 0, 0, [])), (709, .iconst 3, 1, (0, 0, 3, 0, [])), (710, .iadd, 1, (0, 0, 0, 0, [])), (711, .iaload, 1, (0, 0, 0, 0, [])), (712, .invokevirtual 85, 3, (85, 3, 0, 0, [])), (715, .aload_n 2, 1, (0, 0, 0, 0, [])), (716, .aload_n 0, 1, (0, 0, 0, 0, [])), (717, .iload_n 3, 1, (0, 0, 0, 0, [])), (718, .iconst 1, 1, (0, 0, 1, 0, [])), (719, .iadd, 1, (0, 0, 0, 0, [])), (720, .iaload, 1, (0, 0, 0, 0, [])), (721, .aload_n 0, 1, (0, 0, 0, 0, [])), (722, .iload_n 3, 1, (0, 0, 0, 0, [])), (723, .iconst 2, 1, (0, 0, 2, 0, [])), (724, .iadd, 1, (0, 0, 0, 0, [])), (725, .iaload, 1, (0, 0, 0, 0, [])), (726, .aload_n 0, 1, (0, 0, 0, 0, [])), (727, .iload_n 3, 1, (0, 0, 0, 0, [])), (728, .iconst 3, 1, (0, 0, 3, 0, [])), (729, .iadd, 1, (0, 0, 0, 0, [])), (730, .iaload, 1, (0, 0, 0, 0, [])), (731, .invokevirtual 88, 3, (164, 3, 0, 0, [])), (734, .if_icmp .eq 436, 3, (1170, 0, 0, 0, [])), (737, .iconst 0, 1, (0, 0, 0, 0, [])), (738, .ireturn, 1, (1, 0, 0, 0, [])), (739, .aload_n 1, 1, (0, 0, 0, 0, [])), (740, .aload_n 0, 1, (0, 0, 0, 0, [])), (741, .iload_n 3, 1, (0, 0, 0, 0, [])), (742, .iconst 1, 1, (0, 0, 1, 0, [])), (743, .iadd, 1, (0, 0, 0, 0, [])), (744, .iaload, 1, (0, 0, 0, 0, [])), (745, .aload_n 0, 1, (0, 0, 0, 0, [])), (746, .iload_n 3, 1, (0, 0, 0, 0, [])), (747, .iconst 2, 1, (0, 0, 2, 0, [])), (748, .iadd, 1, (0, 0, 0, 0, [])), (749, .iaload, 1, (0, 0, 0, 0, [])), (750, .aload_n 0, 1, (0, 0, 0, 0, [])), (751, .iload_n 3, 1, (0, 0, 0, 0, [])), (752, .iconst 3, 1, (0, 0, 3, 0, [])), (753, .iadd, 1, (0, 0, 0, 0, [])), (754, .iaload, 1, (0, 0, 0, 0, [])), (755, .aload_n 0, 1, (0, 0, 0, 0, [])), (756, .iload_n 3, 1, (0, 0, 0, 0, [])), (757, .iconst 4, 1, (0, 0, 4, 0, [])), (758, .iadd, 1, (0, 0, 0, 0, [])), (759, .iaload, 1, (0, 0, 0, 0, [])), (760, .aload_n 0, 1, (0, 0, 0, 0, [])), (761, .iload_n 3, 1, (0, 0, 0, 0, [])), (762, .iconst 5, 1, (0, 0, 5, 0, [])), (763, .iadd, 1, (0, 0, 0, 0, [])), (764, .iaload, 1, (0, 0, 0, 0, [])), (765, .aload_n 0, 1, (0, 0, 0, 0, [])), (766, .iload_n 3, 1, (0, 0, 0, 0, [])), (767, .bipush 6, 2, (0, 0, 6, 0, [])), (769, .iadd, 1, (0, 0, 0, 0, [])), (770, .iaload, 1, (0, 0, 0, 0, [])), (771, .invokevirtual 89, 3, (86, 6, 0, 0, [])), (774, .aload_n 2, 1, (0, 0, 0, 0, [])), (775, .aload_n 0, 1, (0, 0, 0, 0, [])), (776, .iload_n 3, 1, (0, 0, 0, 0, [])), (777, .iconst 1, 1, (0, 0, 1, 0, [])), (778, .iadd, 1, (0, 0, 0, 0, [])), (779, .iaload, 1, (0, 0, 0, 0, [])), (780, .aload_n 0, 1, (0, 0, 0, 0, [])), (781, .iload_n 3, 1, (0, 0, 0, 0, [])), (782, .iconst 2, 1, (0, 0, 2, 0, [])), (783, .iadd, 1, (0, 0, 0, 0, [])), (784, .iaload, 1, (0, 0, 0, 0, [])), (785, .aload_n 0, 1, (0, 0, 0, 0, [])), (786, .iload_n 3, 1, (0, 0, 0, 0, [])), (787, .iconst 3, 1, (0, 0, 3, 0, [])), (788, .iadd, 1, (0, 0, 0, 0, [])), (789, .iaload, 1, (0, 0, 0, 0, [])), (790, .aload_n 0, 1, (0, 0, 0, 0, [])), (791, .iload_n 3, 1, (0, 0, 0, 0, [])), (792, .iconst 4, 1, (0, 0, 4, 0, [])), (793, .iadd, 1, (0, 0, 0, 0, [])), (794, .iaload, 1, (0, 0, 0, 0, [])), (795, .aload_n 0, 1, (0, 0, 0, 0, [])), (796, .iload_n 3, 1, (0, 0, 0, 0, [])), (797, .iconst 5, 1, (0, 0, 5, 0, [])), (798, .iadd, 1, (0, 0, 0, 0, [])), (799, .iaload, 1, (0, 0, 0, 0, [])), (800, .aload_n 0, 1, (0, 0, 0, 0, [])), (801, .iload_n 3, 1, (0, 0, 0, 0, [])), (802, .bipush 6, 2, (0, 0, 6, 0, [])), (804, .iadd, 1, (0, 0, 0, 0, [])), (805, .iaload, 1, (0, 0, 0, 0, [])), (806, .invokevirtual 93, 3, (166, 6, 0, 0, [])), (809, .if_icmp .eq 361, 3, (1170, 0, 0, 0, [])), (812, .iconst 0, 1, (0, 0, 0, 0, [])), (813, .ireturn, 1, (1, 0, 0, 0, [])), (814, .aload_n 1, 1, (0, 0, 0, 0, [])), (815, .aload_n 0, 1, (0, 0, 0, 0, [])), (816, .iload_n 3, 1, (0, 0, 0, 0, [])), (817, .iconst 1, 1, (0, 0, 1, 0, [])), (818, .iadd, 1, (0, 0, 0, 0, [])), (819, .iaload, 1, (0, 0, 0, 0, [])), (820, .aload_n 0, 1, (0, 0, 0, 0, [])), (821, .iload_n 3, 1, (0, 0, 0, 0, [])), (822, .iconst 2, 1, (0, 0, 2, 0, [])), (823, .iadd, 1, (0, 0, 0, 0, [])), (824, .iaload, 1, (0, 0, 0, 0, [])), (825, .aload_n 0, 1, (0, 0, 0, 0, [])), (826, .iload_n 3, 1, (0, 0, 0, 0, [])), (827, .iconst 3, 1, (0, 0, 3, 0, [])), (828, .iadd, 1, (0, 0, 0, 0, [])), (829, .iaload, 1, (0, 0, 0, 0, [])), (830, .aload_n 0, 1, (0, 0, 0, 0, [])), (831, .iload_n 3, 1, (0, 0, 0, 0, [])), (832, .iconst 4, 1, (0, 0, 4, 0, [])), (833, .iadd, 1, (0, 0, 0, 0, [])), (834, .iaload, 1, (0, 0, 0, 0, [])), (835, .invokevirtual 94, 3, (87, 4, 0, 0, [])), (838, .aload_n 2, 1, (0, 0, 0, 0, [])), (839, .aload_n 0, 1, (0, 0, 0, 0, [])), (840, .iload_n 3, 1, (0, 0, 0, 0, [])), (841, .iconst 1, 1, (0, 0, 1, 0, [])), (842, .iadd, 1, (0, 0, 0, 0, [])), (843, .iaload, 1, (0, 0, 0, 0, [])), (844, .aload_n 0, 1, (0, 0, 0, 0, [])), (845, .iload_n 3, 1, (0, 0, 0, 0, [])), (846, .iconst 2, 1, (0, 0, 2, 0, [])), (847, .iadd, 1, (0, 0, 0, 0, [])), (848, .iaload, 1, (0, 0, 0, 0, [])), (849, .aload_n 0, 1, (0, 0, 0, 0, [])), (850, .iload_n 3, 1, (0, 0, 0, 0, [])), (851, .iconst 3, 1, (0, 0, 3, 0, [])), (852, .iadd, 1, (0, 0, 0, 0, [])), (853, .iaload, 1, (0, 0, 0, 0, [])), (854, .aload_n 0, 1, (0, 0, 0, 0, [])), (855, .iload_n 3, 1, (0, 0, 0, 0, [])), (856, .iconst 4, 1, (0, 0, 4, 0, [])), (857, .iadd, 1, (0, 0, 0, 0, [])), (858, .iaload, 1, (0, 0, 0, 0, [])), (859, .invokevirtual 98, 3, (168, 4, 0, 0, [])), (862, .if_icmp .eq 308, 3, (1170, 0, 0, 0, [])), (865, .iconst 0, 1, (0, 0, 0, 0, [])), (866, .ireturn, 1, (1, 0, 0, 0, [])), (867, .aload_n 1, 1, (0, 0, 0, 0, [])), (868, .aload_n 0, 1, (0, 0, 0, 0, [])), (869, .iload_n 3, 1, (0, 0, 0, 0, [])), (870, .iconst 1, 1, (0, 0, 1, 0, [])), (871, .iadd, 1, (0, 0, 0, 0, [])), (872, .iaload, 1, (0, 0, 0, 0, [])), (873, .aload_n 0, 1, (0, 0, 0, 0, [])), (874, .iload_n 3, 1, (0, 0, 0, 0, [])), (875, .iconst 2, 1, (0, 0, 2, 0, [])), (876, .iadd, 1, (0, 0, 0, 0, [])), (877, .iaload, 1, (0, 0, 0, 0, [])), (878, .invokevirtual 99, 3, (88, 2, 0, 0, [])), (881, .aload_n 2, 1, (0, 0, 0, 0, [])), (882, .aload_n 0, 1, (0, 0, 0, 0, [])), (883, .iload_n 3, 1, (0, 0, 0, 0, [])), (884, .iconst 1, 1, (0, 0, 1, 0, [])), (885, .iadd, 1, (0, 0, 0, 0, [])), (886, .iaload, 1, (0, 0, 0, 0, [])), (887, .aload_n 0, 1, (0, 0, 0, 0, [])), (888, .iload_n 3, 1, (0, 0, 0, 0, [])), (889, .iconst 2, 1, (0, 0, 2, 0, [])), (890, .iadd, 1, (0, 0, 0, 0, [])), (891, .iaload, 1, (0, 0, 0, 0, [])), (892, .invokevirtual 102, 3, (169, 2, 0, 0, [])), (895, .if_icmp .eq 275, 3, (1170, 0, 0, 0, [])), (898, .iconst 0, 1, (0, 0, 0, 0, [])), (899, .ireturn, 1, (1, 0, 0, 0, [])), (900, .aload_n 1, 1, (0, 0, 0, 0, [])), (901, .aload_n 0, 1, (0, 0, 0, 0, [])), (902, .iload_n 3, 1, (0, 0, 0, 0, [])), (903, .iconst 1, 1, (0, 0, 1, 0, [])), (904, .iadd, 1, (0, 0, 0, 0, [])), (905, .iaload, 1, (0, 0, 0, 0, [])), (906, .aload_n 0, 1, (0, 0, 0, 0, [])), (907, .iload_n 3, 1, (0, 0, 0, 0, [])), (908, .iconst 2, 1, (0, 0, 2, 0, [])), (909, .iadd, 1, (0, 0, 0, 0, [])), (910, .iaload, 1, (0, 0, 0, 0, [])), (911, .invokevirtual 103, 3, (89, 2, 0, 0, [])), (914, .aload_n 2, 1, (0, 0, 0, 0, [])), (915, .aload_n 0, 1, (0, 0, 0, 0, [])), (916, .iload_n 3, 1, (0, 0, 0, 0, [])), (917, .iconst 1, 1, (0, 0, 1, 0, [])), (918, .iadd, 1, (0, 0, 0, 0, [])), (919, .iaload, 1, (0, 0, 0, 0, [])), (920, .aload_n 0, 1, (0, 0, 0, 0, [])), (921, .iload_n 3, 1, (0, 0, 0, 0, [])), (922, .iconst 2, 1, (0, 0, 2, 0, [])), (923, .iadd, 1, (0, 0, 0, 0, [])), (924, .iaload, 1, (0, 0, 0, 0, [])), (925, .invokevirtual 106, 3, (170, 2, 0, 0, [])), (928, .if_icmp .eq 242, 3, (1170, 0, 0, 0, [])), (931, .iconst 0, 1, (0, 0, 0, 0, [])), (932, .ireturn, 1, (1, 0, 0, 0, [])), (933, .aload_n 1, 1, (0, 0, 0, 0, [])), (934, .aload_n 0, 1, (0, 0, 0, 0, [])), (935, .iload_n 3, 1, (0, 0, 0, 0, [])), (936, .iconst 1, 1, (0, 0, 1, 0, [])), (937, .iadd, 1, (0, 0, 0, 0, [])), (938, .iaload, 1, (0, 0, 0, 0, [])), (939, .aload_n 0, 1, (0, 0, 0, 0, [])), (940, .iload_n 3, 1, (0, 0, 0, 0, [])), (941, .iconst 2, 1, (0, 0, 2, 0, [])), (942, .iadd, 1, (0, 0, 0, 0, [])), (943, .iaload, 1, (0, 0, 0, 0, [])), (944, .aload_n 0, 1, (0, 0, 0, 0, [])), (945, .iload_n 3, 1, (0, 0, 0, 0, [])), (946, .iconst 3, 1, (0, 0, 3, 0, [])), (947, .iadd, 1, (0, 0, 0, 0, [])), (948, .iaload, 1, (0, 0, 0, 0, [])), (949, .invokevirtual 107, 3, (90, 3, 0, 0, [])), (952, .aload_n 2, 1, (0, 0, 0, 0, [])), (953, .aload_n 0, 1, (0, 0, 0, 0, [])), (954, .iload_n 3, 1, (0, 0, 0, 0, [])), (955, .iconst 1, 1, (0, 0, 1, 0, [])), (956, .iadd, 1, (0, 0, 0, 0, [])), (957, .iaload, 1, (0, 0, 0, 0, [])), (958, .aload_n 0, 1, (0, 0, 0, 0, [])), (959, .iload_n 3, 1, (0, 0, 0, 0, [])), (960, .iconst 2, 1, (0, 0, 2, 0, [])), (961, .iadd, 1, (0, 0, 0, 0, [])), (962, .iaload, 1, (0, 0, 0, 0, [])), (963, .aload_n 0, 1, (0, 0, 0, 0, [])), (964, .iload_n 3, 1, (0, 0, 0, 0, [])), (965, .iconst 3, 1, (0, 0, 3, 0, [])), (966, .iadd, 1, (0, 0, 0, 0, [])), (967, .iaload, 1, (0, 0, 0, 0, [])), (968, .invokevirtual 110, 3, (171, 3, 0, 0, [])), (971, .if_icmp .eq 199, 3, (1170, 0, 0, 0, [])), (974, .iconst 0, 1, (0, 0, 0, 0, [])), (975, .ireturn, 1, (1, 0, 0, 0, [])), (976, .aload_n 1, 1, (0, 0, 0, 0, [])), (977, .aload_n 0, 1, (0, 0, 0, 0, [])), (978, .iload_n 3, 1, (0, 0, 0, 0, [])), (979, .iconst 1, 1, (0, 0, 1, 0, [])), (980, .iadd, 1, (0, 0, 0, 0, [])), (981, .iaload, 1, (0, 0, 0, 0, [])), (982, .invokevirtual 111, 3, (91, 1, 0, 0, [])), (985, .aload_n 2, 1, (0, 0, 0, 0, [])), (986, .aload_n 0, 1, (0, 0, 0, 0, [])), (987, .iload_n 3, 1, (0, 0, 0, 0, [])), (988, .iconst 1, 1, (0, 0, 1, 0, [])), (989, .iadd, 1, (0, 0, 0, 0, [])), (990, .iaload, 1, (0, 0, 0, 0, [])), (991, .invokevirtual 114, 3, (172, 1, 0, 0, [])), (994, .if_icmp .eq 176, 3, (1170, 0, 0, 0, [])), (997, .iconst 0, 1, (0, 0, 0, 0, [])), (998, .ireturn, 1, (1, 0, 0, 0, [])), (999, .aload_n 1, 1, (0, 0, 0, 0, [])), (1000, .aload_n 0, 1, (0, 0, 0, 0, [])), (1001, .iload_n 3, 1, (0, 0, 0, 0, [])), (1002, .iconst 1, 1, (0, 0, 1, 0, [])), (1003, .iadd, 1, (0, 0, 0, 0, [])), (1004, .iaload, 1, (0, 0, 0, 0, [])), (1005, .invokevirtual 115, 3, (92, 1, 0, 0, [])), (1008, .aload_n 2, 1, (0, 0, 0, 0, [])), (1009, .aload_n 0, 1, (0, 0, 0, 0, [])), (1010, .iload_n 3, 1, (0, 0, 0, 0, [])), (1011, .iconst 1, 1, (0, 0, 1, 0, [])), (1012, .iadd, 1, (0, 0, 0, 0, [])), (1013, .iaload, 1, (0, 0, 0, 0, [])), (1014, .invokevirtual 118, 3, (173, 1, 0, 0, [])), (1017, .if_icmp .eq 153, 3, (1170, 0, 0, 0, [])), (1020, .iconst 0, 1, (0, 0, 0, 0, [])), (1021, .ireturn, 1, (1, 0, 0, 0, [])), (1022, .aload_n 1, 1, (0, 0, 0, 0, [])), (1023, .aload_n 0, 1, (0, 0, 0, 0, [])), (1024, .iload_n 3, 1, (0, 0, 0, 0, [])), (1025, .iconst 1, 1, (0, 0, 1, 0, [])), (1026, .iadd, 1, (0, 0, 0, 0, [])), (1027, .iaload, 1, (0, 0, 0, 0, [])), (1028, .invokevirtual 119, 3, (93, 1, 0, 0, [])), (1031, .aload_n 2, 1, (0, 0, 0, 0, [])), (1032, .aload_n 0, 1, (0, 0, 0, 0, [])), (1033, .iload_n 3, 1, (0, 0, 0, 0, [])), (1034, .iconst 1, 1, (0, 0, 1, 0, [])), (1035, .iadd, 1, (0, 0, 0, 0, [])), (1036, .iaload, 1, (0, 0, 0, 0, [])), (1037, .invokevirtual 122, 3, (175, 1, 0, 0, [])), (1040, .if_icmp .eq 130, 3, (1170, 0, 0, 0, [])), (1043, .iconst 0, 1, (0, 0, 0, 0, [])), (1044, .ireturn, 1, (1, 0, 0, 0, [])), (1045, .aload_n 1, 1, (0, 0, 0, 0, [])), (1046, .aload_n 0, 1, (0, 0, 0, 0, [])), (1047, .iload_n 3, 1, (0, 0, 0, 0, [])), (1048, .iconst 1, 1, (0, 0, 1, 0, [])), (1049, .iadd, 1, (0, 0, 0, 0, [])), (1050, .iaload, 1, (0, 0, 0, 0, [])), (1051, .aload_n 0, 1, (0, 0, 0, 0, [])), (1052, .iload_n 3, 1, (0, 0, 0, 0, [])), (1053, .iconst 2, 1, (0, 0, 2, 0, [])), (1054, .iadd, 1, (0, 0, 0, 0, [])), (1055, .iaload, 1, (0, 0, 0, 0, [])), (1056, .invokevirtual 123, 3, (94, 2, 0, 0, [])), (1059, .aload_n 2, 1, (0, 0, 0, 0, [])), (1060, .aload_n 0, 1, (0, 0, 0, 0, [])), (1061, .iload_n 3, 1, (0, 0, 0, 0, [])), (1062, .iconst 1, 1, (0, 0, 1, 0, [])), (1063, .iadd, 1, (0, 0, 0, 0, [])), (1064, .iaload, 1, (0, 0, 0, 0, [])), (1065, .aload_n 0, 1, (0, 0, 0, 0, [])), (1066, .iload_n 3, 1, (0, 0, 0, 0, [])), (1067, .iconst 2, 1, (0, 0, 2, 0, [])), (1068, .iadd, 1, (0, 0, 0, 0, [])), (1069, .iaload, 1, (0, 0, 0, 0, [])), (1070, .invokevirtual 126, 3, (176, 2, 0, 0, [])), (1073, .if_icmp .eq 97, 3, (1170, 0, 0, 0, [])), (1076, .iconst 0, 1, (0, 0, 0, 0, [])), (1077, .ireturn, 1, (1, 0, 0, 0, [])), (1078, .aload_n 1, 1, (0, 0, 0, 0, [])), (1079, .aload_n 0, 1, (0, 0, 0, 0, [])), (1080, .iload_n 3, 1, (0, 0, 0, 0, [])), (1081, .iconst 1, 1, (0, 0, 1, 0, [])), (1082, .iadd, 1, (0, 0, 0, 0, [])), (1083, .iaload, 1, (0, 0, 0, 0, [])), (1084, .aload_n 0, 1, (0, 0, 0, 0, [])), (1085, .iload_n 3, 1, (0, 0, 0, 0, [])), (1086, .iconst 2, 1, (0, 0, 2, 0, [])), (1087, .iadd, 1, (0, 0, 0, 0, [])), (1088, .iaload, 1, (0, 0, 0, 0, [])), (1089, .invokevirtual 127, 3, (95, 2, 0, 0, [])), (1092, .aload_n 2, 1, (0, 0, 0, 0, [])), (1093, .aload_n 0, 1, (0, 0, 0, 0, [])), (1094, .iload_n 3, 1, (0, 0, 0, 0, [])), (1095, .iconst 1, 1, (0, 0, 1, 0, [])), (1096, .iadd, 1, (0, 0, 0, 0, [])), (1097, .iaload, 1, (0, 0, 0, 0, [])), (1098, .aload_n 0, 1, (0, 0, 0, 0, [])), (1099, .iload_n 3, 1, (0, 0, 0, 0, [])), (1100, .iconst 2, 1, (0, 0, 2, 0, [])), (1101, .iadd, 1, (0, 0, 0, 0, [])), (1102, .iaload, 1, (0, 0, 0, 0, [])), (1103, .invokevirtual 130, 3, (182, 2, 0, 0, [])), (1106, .if_icmp .eq 64, 3, (1170, 0, 0, 0, [])), (1109, .iconst 0, 1, (0, 0, 0, 0, [])), (1110, .ireturn, 1, (1, 0, 0, 0, [])), (1111, .aload_n 1, 1, (0, 0, 0, 0, [])), (1112, .aload_n 0, 1, (0, 0, 0, 0, [])), (1113, .iload_n 3, 1, (0, 0, 0, 0, [])), (1114, .iconst 1, 1, (0, 0, 1, 0, [])), (1115, .iadd, 1, (0, 0, 0, 0, [])), (1116, .iaload, 1, (0, 0, 0, 0, [])), (1117, .invokevirtual 131, 3, (96, 1, 0, 0, [])), (1120, .aload_n 2, 1, (0, 0, 0, 0, [])), (1121, .aload_n 0, 1, (0, 0, 0, 0, [])), (1122, .iload_n 3, 1, (0, 0, 0, 0, [])), (1123, .iconst 1, 1, (0, 0, 1, 0, [])), (1124, .iadd, 1, (0, 0, 0, 0, [])), (1125, .iaload, 1, (0, 0, 0, 0, [])), (1126, .invokevirtual 134, 3, (183, 1, 0, 0, [])), (1129, .if_icmp .eq 41, 3, (1170, 0, 0, 0, [])), (1132, .iconst 0, 1, (0, 0, 0, 0, [])), (1133, .ireturn, 1, (1, 0, 0, 0, [])), (1134, .aload_n 1, 1, (0, 0, 0, 0, [])), (1135, .aload_n 0, 1, (0, 0, 0, 0, [])), (1136, .iload_n 3, 1, (0, 0, 0, 0, [])), (1137, .iconst 1, 1, (0, 0, 1, 0, [])), (1138, .iadd, 1, (0, 0, 0, 0, [])), (1139, .iaload, 1, (0, 0, 0, 0, [])), (1140, .invokevirtual 135, 3, (97, 1, 0, 0, [])), (1143, .aload_n 2, 1, (0, 0, 0, 0, [])), (1144, .aload_n 0, 1, (0, 0, 0, 0, [])), (1145, .iload_n 3, 1, (0, 0, 0, 0, [])), (1146, .iconst 1, 1, (0, 0, 1, 0, [])), (1147, .iadd, 1, (0, 0, 0, 0, [])), (1148, .iaload, 1, (0, 0, 0, 0, [])), (1149, .invokevirtual 138, 3, (184, 1, 0, 0, [])), (1152, .if_icmp .eq 18, 3, (1170, 0, 0, 0, [])), (1155, .iconst 0, 1, (0, 0, 0, 0, [])), (1156, .ireturn, 1, (1, 0, 0, 0, [])), (1157, .aload_n 1, 1, (0, 0, 0, 0, [])), (1158, .invokevirtual 139, 3, (98, 0, 0, 0, [])), (1161, .aload_n 2, 1, (0, 0, 0, 0, [])), (1162, .invokevirtual 142, 3, (185, 0, 0, 0, [])), (1165, .if_icmp .eq 5, 3, (1170, 0, 0, 0, [])), (1168, .iconst 0, 1, (0, 0, 0, 0, [])), (1169, .ireturn, 1, (1, 0, 0, 0, [])), (1170, .iinc 3 7, 3, (0, 0, 7, 0, [])), (1173, .goto (-1155), 3, (18, 0, 0, 0, [])), (1176, .iconst 1, 1, (0, 0, 1, 0, [])), (1177, .ireturn, 1, (1, 0, 0, 0, []))]
def g_k1 : List (Nat × g_I) := [(0, .getstatic 17, 3, (3, 0, 0, 0, [])), (3, .iload_n 0, 1, (0, 0, 0, 0, [])), (4, .iaload, 1, (0, 0, 0, 0, [])), (5, .iload_n 1, 1, (0, 0, 0, 0, [])), (6, .ishr, 1, (0, 0, 0, 0, [])), (7, .iconst 1, 1, (0, 0, 1, 0, [])), (8, .iand, 1, (0, 0, 0, 0, [])), (9, .iconst 1, 1, (0, 0, 1, 0, [])), (10, .if_icmp .ne 7, 3, (17, 0, 0, 0, [])), (13, .iconst 1, 1, (0, 0, 1, 0, [])), (14, .goto 4, 3, (18, 0, 0, 0, [])), (17, .iconst 0, 1, (0, 0, 0, 0, [])), (18, .ireturn, 1, (1, 0, 0, 0, []))]
def g_k2 : List (Nat × g_I) := [(0, .aload_n 0, 1, (0, 0, 0, 0, [])), (1, .iconst 0, 1, (0, 0, 0, 0, [])), (2, .putfield 13, 3, (0, 1, 0, 0, [])), (5, .aload_n 1, 1, (0, 0, 0, 0, [])), (6, .iload_n 2, 1, (0, 0, 0, 0, [])), (7, .invokevirtual 20, 3, (59, 1, 0, 0, [])), (10, .istore 4, 2, (0, 0, 0, 0, [])), (12, .aload_n 0, 1, (0, 0, 0, 0, [])), (13, .aload_n 1, 1, (0, 0, 0, 0, [])), (14, .iload_n 2, 1, (0, 0, 0, 0, [])), (15, .iload_n 3, 1, (0, 0, 0, 0, [])), (16, .ifCond .ne 12, 3, (28, 0, 0, 0, [])), (19, .getstatic 26, 3, (4, 0, 0, 0, [])), (22, .iload 4, 2, (0, 0, 0, 0, [])), (24, .iaload, 1, (0, 0, 0, 0, [])), (25, .goto 9, 3, (34, 0, 0, 0, [])), (28, .getstatic 29, 3, (5, 0, 0, 0, [])), (31, .iload 4, 2, (0, 0, 0, 0, [])), (33, .iaload, 1, (0, 0, 0, 0, [])), (34, .iconst 1, 1, (0, 0, 1, 0, [])), (35, .invokevirtual 32, 3, (3, 4, 0, 0, [])), (38, .ireturn, 1, (0, 0, 0, 0, []))]
def g_k3 : List (Nat × g_I) := [(0, .iload 4, 2, (0, 0, 0, 0, [])), (2, .bipush 16, 2, (0, 0, 16, 0, [])), (4, .if_icmp .le 5, 3, (9, 0, 0, 0, [])), (7, .iconst 0, 1, (0, 0, 0, 0, [])), (8, .ireturn, 1, (0, 0, 0, 0, [])), (9, .aload_n 0, 1, (0, 0, 0, 0, [])), (10, .iload_n 3, 1, (0, 0, 0, 0, [])), (11, .invokevirtual 36, 3, (4, 1, 0, 0, [])), (14, .aload_n 1, 1, (0, 0, 0, 0, [])), (15, .iload_n 2, 1, (0, 0, 0, 0, [])), (16, .invokevirtual 20, 3, (59, 1, 0, 0, [])), (19, .istore 5, 2, (0, 0, 0, 0, [])), (21, .iload 4, 2, (0, 0, 0, 0, [])), (23, .iconst 1, 1, (0, 0, 1, 0, [])), (24, .iadd, 1, (0, 0, 0, 0, [])), (25, .istore 6, 2, (0, 0, 0, 0, [])), (27, .iload_n 3, 1, (0, 0, 0, 0, [])), (28, .tableswitch 222 10 24 #[76, 83, 109, 121, 135, 222, 222, 222, 222, 222, 148, 150, 168, 183, 209], 76, (250, 10, 0, 0, [104, 111, 137, 149, 163, 250, 250, 250, 250, 250, 176, 178, 196, 211, 237])), (104, .aload_n 1, 1, (0, 0, 0, 0, [])), (105, .getfield 40, 3, (5, 13, 0, 0, [])), (108, .iload_n 2, 1, (0, 0, 0, 0, [])), (109, .iaload, 1, (0, 0, 0, 0, [])), (110, .ireturn, 1, (0, 0, 0, 0, [])), (111, .aload_n 0, 1, (0, 0, 0, 0, [])), (112, .aload_n 1, 1, (0, 0, 0, 0, [])), (113, .iload_n 2, 1, (0, 0, 0, 0, [])), (114, .bipush 10, 2, (0, 0, 10, 0, [])), (116, .iload 6, 2, (0, 0, 0, 0, [])), (118, .invokevirtual 32, 3, (3, 4, 0, 0, [])), (121, .aload_n 0, 1, (0, 0, 0, 0, [])), (122, .aload_n 1, 1, (0, 0, 0, 0, [])), (123, .iload_n 2, 1, (0, 0, 0, 0, [])), (124, .getstatic 29, 3, (5, 0, 0, 0, [])), (127, .iload 5, 2, (0, 0, 0, 0, [])), (129, .iaload, 1, (0, 0, 0, 0, [])), (130, .iload 6, 2, (0, 0, 0, 0, [])), (132, .invokevirtual 32, 3, (3, 4, 0, 0, [])), (135, .iadd, 1, (0, 0, 0, 0, [])), (136, .ireturn, 1, (0, 0, 0, 0, [])), (137, .aload_n 0, 1, (0, 0, 0, 0, [])), (138, .aload_n 1, 1, (0, 0, 0, 0, [])), (139, .iload_n 2, 1, (0, 0, 0, 0, [])), (140, .bipush 11, 2, (0, 0, 11, 0, [])), (142, .iload 6, 2, (0, 0, 0, 0, [])), (144, .invokevirtual 32, 3, (3, 4, 0, 0, [])), (147, .ineg, 1, (0, 0, 0, 0, [])), (148, .ireturn, 1, (0, 0, 0, 0, [])), (149, .aload_n 0, 1, (0, 0, 0, 0, [])), (150, .aload_n 1, 1, (0, 0, 0, 0, [])), (151, .iload_n 2, 1, (0, 0, 0, 0, [])), (152, .bipush 10, 2, (0, 0, 10, 0, [])), (154, .iload 6, 2, (0, 0, 0, 0, [])), (156, .invokevirtual 32, 3, (3, 4, 0, 0, [])), (159, .bipush 100, 2, (0, 0, 100, 0, [])), (161, .isub, 1, (0, 0, 0, 0, [])), (162, .ireturn, 1, (0, 0, 0, 0, [])), (163, .iconst 2, 1, (0, 0, 2, 0, [])), (164, .aload_n 0, 1, (0, 0, 0, 0, [])), (165, .aload_n 1, 1, (0, 0, 0, 0, [])), (166, .iload_n 2, 1, (0, 0, 0, 0, [])), (167, .bipush 13, 2, (0, 0, 13, 0, [])), (169, .iload 6, 2, (0, 0, 0, 0, [])), (171, .invokevirtual 32, 3, (3, 4, 0, 0, [])), (174, .imul, 1, (0, 0, 0, 0, [])), (175, .ireturn, 1, (0, 0, 0, 0, [])), (176, .iload_n 2, 1, (0, 0, 0, 0, [])), (177, .ireturn, 1, (0, 0, 0, 0, [])), (178, .aload_n 0, 1, (0, 0, 0, 0, [])), (179, .aload_n 1, 1, (0, 0, 0, 0, [])), (180, .iload_n 2, 1, (0, 0, 0, 0, [])), (181, .bipush 20, 2, (0, 0, 20, 0, [])), (183, .iload 6, 2, (0, 0, 0, 0, [])), (185, .invokevirtual 32, 3, (3, 4, 0, 0, [])), (188, .aload_n 1, 1, (0, 0, 0, 0, [])), (189, .getfield 43, 3, (5, 12, 0, 0, [])), (192, .iload_n 2, 1, (0, 0, 0, 0, [])), (193, .iaload, 1, (0, 0, 0, 0, [])), (194, .iadd, 1, (0, 0, 0, 0, [])), (195, .ireturn, 1, (0, 0, 0, 0, [])), (196, .aload_n 0, 1, (0, 0, 0, 0, [])), (197, .aload_n 1, 1, (0, 0, 0, 0, [])), (198, .iload_n 2, 1, (0, 0, 0, 0, [])), (199, .bipush 21, 2, (0, 0, 21, 0, [])), (201, .iload 6, 2, (0, 0, 0, 0, [])), (203, .invokevirtual 32, 3, (3, 4, 0, 0, [])), (206, .sipush 1000, 3, (0, 0, 1000, 0, [])), (209, .isub, 1, (0, 0, 0, 0, [])), (210, .ireturn, 1, (0, 0, 0, 0, [])), (211, .aload_n 0, 1, (0, 0, 0, 0, [])), (212, .aload_n 1, 1, (0, 0, 0, 0, [])), (213, .iload_n 2, 1, (0, 0, 0, 0, [])), (214, .bipush 20, 2, (0, 0, 20, 0, [])), (216, .iload 6, 2, (0, 0, 0, 0, [])), (218, .invokevirtual 32, 3, (3, 4, 0, 0, [])), (221, .aload_n 0, 1, (0, 0, 0, 0, [])), (222, .aload_n 1, 1, (0, 0, 0, 0, [])), (223, .iload_n 2, 1, (0, 0, 0, 0, [])), (224, .getstatic 26, 3, (4, 0, 0, 0, [])), (227, .iload 5, 2, (0, 0, 0, 0, [])), (229, .iaload, 1, (0, 0, 0, 0, [])), (230, .iload 6, 2, (0, 0, 0, 0, [])), (232, .invokevirtual 32, 3, (3, 4, 0, 0, [])), (235, .isub, 1, (0, 0, 0, 0, [])), (236, .ireturn, 1, (0, 0, 0, 0, [])), (237, .iconst 2, 1, (0, 0, 2, 0, [])), (238, .aload_n 0, 1, (0, 0, 0, 0, [])), (239, .aload_n 1, 1, (0, 0, 0, 0, [])), (240, .iload_n 2, 1, (0, 0, 0, 0, [])), (241, .bipush 22, 2, (0, 0, 22, 0, [])), (243, .iload 6, 2, (0, 0, 0, 0, [])), (245, .invokevirtual 32, 3, (3, 4, 0, 0, [])), (248, .imul, 1, (0, 0, 0, 0, [])), (249, .ireturn, 1, (0, 0, 0, 0, [])), (250, .iconst 0, 1, (0, 0, 0, 0, [])), (251, .ireturn, 1, (0, 0, 0, 0, []))]
def g_k4 : List (Nat × g_I) := [(0, .aload_n 0, 1, (0, 0, 0, 0, [])), (1, .getfield 13, 3, (0, 1, 0, 0, [])), (4, .bipush 16, 2, (0, 0, 16, 0, [])), (6, .if_icmp .ge 23, 3, (29, 0, 0, 0, [])), (9, .aload_n 0, 1, (0, 0, 0, 0, [])), (10, .getfield 9, 3, (0, 0, 0, 0, [])), (13, .aload_n 0, 1, (0, 0, 0, 0, [])), (14, .getfield 13, 3, (0, 1, 0, 0, [])), (17, .iload_n 1, 1, (0, 0, 0, 0, [])), (18, .iastore, 1, (0, 0, 0, 0, [])), (19, .aload_n 0, 1, (0, 0, 0, 0, [])), (20, .dup, 1, (0, 0, 0, 0, [])), (21, .getfield 13, 3, (0, 1, 0, 0, [])), (24, .iconst 1, 1, (0, 0, 1, 0, [])), (25, .iadd, 1, (0, 0, 0, 0, [])), (26, .putfield 13, 3, (0, 1, 0, 0, [])), (29, .return_, 1, (0, 0, 0, 0, []))]
def g_k5 : List (Nat × g_I) := [(0, .iload_n 2, 1, (0, 0, 0, 0, [])), (1, .bipush 36, 2, (0, 0, 36, 0, [])), (3, .isub, 1, (0, 0, 0, 0, [])), (4, .aload_n 1, 1, (0, 0, 0, 0, [])), (5, .getfield 25, 3, (5, 3, 0, 0, [])), (8, .imul, 1, (0, 0, 0, 0, [])), (9, .bipush 36, 2, (0, 0, 36, 0, [])), (11, .idiv, 1, (0, 0, 0, 0, [])), (12, .aload_n 1, 1, (0, 0, 0, 0, [])), (13, .getfield 30, 3, (5, 5, 0, 0, [])), (16, .iadd, 1, (0, 0, 0, 0, [])), (17, .istore_n 3, 1, (0, 0, 0, 0, [])), (18, .aload_n 1, 1, (0, 0, 0, 0, [])), (19, .getfield 33, 3, (5, 4, 0, 0, [])), (22, .aload_n 1, 1, (0, 0, 0, 0, [])), (23, .getfield 36, 3, (5, 6, 0, 0, [])), (26, .iadd, 1, (0, 0, 0, 0, [])), (27, .istore 4, 2, (0, 0, 0, 0, [])), (29, .iload_n 3, 1, (0, 0, 0, 0, [])), (30, .invokestatic 39, 3, (0, 1, 0, 0, [4])), (33, .iload 4, 2, (0, 0, 0, 0, [])), (35, .invokestatic 39, 3, (0, 1, 0, 0, [4])), (38, .invokestatic 45, 3, (0, 2, 0, 0, [2])), (41, .istore 5, 2, (0, 0, 0, 0, [])), (43, .aload_n 0, 1, (0, 0, 0, 0, [])), (44, .getfield 9, 3, (1, 0, 0, 0, [])), (47, .iconst 0, 1, (0, 0, 0, 0, [])), (48, .aload_n 1, 1, (0, 0, 0, 0, [])), (49, .getfield 49, 3, (5, 1, 0, 0, [])), (52, .aload_n 1, 1, (0, 0, 0, 0, [])), (53, .getfield 52, 3, (5, 2, 0, 0, [])), (56, .invokestatic 55, 3, (106, 2, 0, 0, [])), (59, .iastore, 1, (0, 0, 0, 0, [])), (60, .aload_n 0, 1, (0, 0, 0, 0, [])), (61, .iconst 1, 1, (0, 0, 1, 0, [])), (62, .putfield 15, 3, (1, 1, 0, 0, [])), (65, .iconst 1, 1, (0, 0, 1, 0, [])), (66, .istore 6, 2, (0, 0, 0, 0, [])), (68, .iload 6, 2, (0, 0, 0, 0, [])), (70, .iload 5, 2, (0, 0, 0, 0, [])), (72, .if_icmp .gt 86, 3, (158, 0, 0, 0, [])), (75, .aload_n 0, 1, (0, 0, 0, 0, [])), (76, .getfield 15, 3, (1, 1, 0, 0, [])), (79, .bipush 9, 2, (0, 0, 9, 0, [])), (81, .if_icmp .ge 77, 3, (158, 0, 0, 0, [])), (84, .aload_n 1, 1, (0, 0, 0, 0, [])), (85, .getfield 49, 3, (5, 1, 0, 0, [])), (88, .iload 6, 2, (0, 0, 0, 0, [])), (90, .iload_n 3, 1, (0, 0, 0, 0, [])), (91, .imul, 1, (0, 0, 0, 0, [])), (92, .iload 5, 2, (0, 0, 0, 0, [])), (94, .idiv, 1, (0, 0, 0, 0, [])), (95, .iadd, 1, (0, 0, 0, 0, [])), (96, .aload_n 1, 1, (0, 0, 0, 0, [])), (97, .getfield 52, 3, (5, 2, 0, 0, [])), (100, .iload 6, 2, (0, 0, 0, 0, [])), (102, .iload 4, 2, (0, 0, 0, 0, [])), (104, .imul, 1, (0, 0, 0, 0, [])), (105, .iload 5, 2, (0, 0, 0, 0, [])), (107, .idiv, 1, (0, 0, 0, 0, [])), (108, .isub, 1, (0, 0, 0, 0, [])), (109, .invokestatic 55, 3, (106, 2, 0, 0, [])), (112, .istore 7, 2, (0, 0, 0, 0, [])), (114, .iload 7, 2, (0, 0, 0, 0, [])), (116, .ldc 58, 2, (0, 0, -1000000, 0, [])), (118, .if_icmp .eq 12, 3, (130, 0, 0, 0, [])), (121, .aload_n 1, 1, (0, 0, 0, 0, [])), (122, .iload 7, 2, (0, 0, 0, 0, [])), (124, .invokevirtual 59, 3, (54, 1, 0, 0, [])), (127, .ifCond .eq 4, 3, (131, 0, 0, 0, [])), (130, .return_, 1, (0, 0, 0, 0, [])), (131, .aload_n 0, 1, (0, 0, 0, 0, [])), (132, .getfield 9, 3, (1, 0, 0, 0, [])), (135, .aload_n 0, 1, (0, 0, 0, 0, [])), (136, .getfield 15, 3, (1, 1, 0, 0, [])), (139, .iload 7, 2, (0, 0, 0, 0, [])), (141, .iastore, 1, (0, 0, 0, 0, [])), (142, .aload_n 0, 1, (0, 0, 0, 0, [])), (143, .dup, 1, (0, 0, 0, 0, [])), (144, .getfield 15, 3, (1, 1, 0, 0, [])), (147, .iconst 1, 1, (0, 0, 1, 0, [])), (148, .iadd, 1, (0, 0, 0, 0, [])), (149, .putfield 15, 3, (1, 1, 0, 0, [])), (152, .iinc 6 1, 3, (0, 0, 1, 0, [])), (155, .goto (-87), 3, (68, 0, 0, 0, [])), (158, .return_, 1, (0, 0, 0, 0, []))]
def g_k6 : List (Nat × g_I) := [(0, .iconst 0, 1, (0, 0, 0, 0, [])), (1, .istore_n 2, 1, (0, 0, 0, 0, [])), (2, .iload_n 2, 1, (0, 0, 0, 0, [])), (3, .aload_n 0, 1, (0, 0, 0, 0, [])), (4, .getfield 15, 3, (1, 1, 0, 0, [])), (7, .if_icmp .ge 21, 3, (28, 0, 0, 0, [])), (10, .aload_n 0, 1, (0, 0, 0, 0, [])), (11, .getfield 9, 3, (1, 0, 0, 0, [])), (14, .iload_n 2, 1, (0, 0, 0, 0, [])), (15, .iaload, 1, (0, 0, 0, 0, [])), (16, .iload_n 1, 1, (0, 0, 0, 0, [])), (17, .if_icmp .ne 5, 3, (22, 0, 0, 0, [])), (20, .iconst 1, 1, (0, 0, 1, 0, [])), (21, .ireturn, 1, (1, 0, 0, 0, [])), (22, .iinc 2 1, 3, (0, 0, 1, 0, [])), (25, .goto (-23), 3, (2, 0, 0, 0, [])), (28, .iconst 0, 1, (0, 0, 0, 0, [])), (29, .ireturn, 1, (1, 0, 0, 0, []))]
def g_k7 : List (Nat × g_I) := [(0, .aload_n 1, 1, (0, 0, 0, 0, [])), (1, .getfield 63, 3, (5, 10, 0, 0, [])), (4, .iload_n 2, 1, (0, 0, 0, 0, [])), (5, .iaload, 1, (0, 0, 0, 0, [])), (6, .iconst 1, 1, (0, 0, 1, 0, [])), (7, .if_icmp .ne 5, 3, (12, 0, 0, 0, [])), (10, .iconst 0, 1, (0, 0, 0, 0, [])), (11, .ireturn, 1, (0, 0, 0, 0, [])), (12, .aload_n 0, 1, (0, 0, 0, 0, [])), (13, .aload_n 1, 1, (0, 0, 0, 0, [])), (14, .iload_n 2, 1, (0, 0, 0, 0, [])), (15, .invokevirtual 66, 3, (5, 2, 0, 0, [])), (18, .iconst 0, 1, (0, 0, 0, 0, [])), (19, .istore_n 3, 1, (0, 0, 0, 0, [])), (20, .iconst 0, 1, (0, 0, 0, 0, [])), (21, .istore 4, 2, (0, 0, 0, 0, [])), (23, .iload 4, 2, (0, 0, 0, 0, [])), (25, .aload_n 1, 1, (0, 0, 0, 0, [])), (26, .getfield 70, 3, (5, 8, 0, 0, [])), (29, .if_icmp .ge 42, 3, (71, 0, 0, 0, [])), (32, .iload_n 3, 1, (0, 0, 0, 0, [])), (33, .aload_n 0, 1, (0, 0, 0, 0, [])), (34, .aload_n 1, 1, (0, 0, 0, 0, [])), (35, .getfield 73, 3, (5, 11, 0, 0, [])), (38, .iload 4, 2, (0, 0, 0, 0, [])), (40, .iaload, 1, (0, 0, 0, 0, [])), (41, .aload_n 1, 1, (0, 0, 0, 0, [])), (42, .getfield 76, 3, (5, 12, 0, 0, [])), (45, .iload 4, 2, (0, 0, 0, 0, [])), (47, .iaload, 1, (0, 0, 0, 0, [])), (48, .iload_n 2, 1, (0, 0, 0, 0, [])), (49, .invokevirtual 79, 3, (12, 3, 0, 0, [])), (52, .ifCond .eq 10, 3, (62, 0, 0, 0, [])), (55, .iconst 1, 1, (0, 0, 1, 0, [])), (56, .iload 4, 2, (0, 0, 0, 0, [])), (58, .ishl, 1, (0, 0, 0, 0, [])), (59, .goto 4, 3, (63, 0, 0, 0, [])), (62, .iconst 0, 1, (0, 0, 0, 0, [])), (63, .ior, 1, (0, 0, 0, 0, [])), (64, .istore_n 3, 1, (0, 0, 0, 0, [])), (65, .iinc 4 1, 3, (0, 0, 1, 0, [])), (68, .goto (-45), 3, (23, 0, 0, 0, [])), (71, .iload_n 3, 1, (0, 0, 0, 0, [])), (72, .ireturn, 1, (0, 0, 0, 0, []))]
def g_k8 : List (Nat × g_I) := [(0, .iconst 0, 1, (0, 0, 0, 0, [])), (1, .istore_n 3, 1, (0, 0, 0, 0, [])), (2, .iconst 0, 1, (0, 0, 0, 0, [])), (3, .istore 4, 2, (0, 0, 0, 0, [])), (5, .iload 4, 2, (0, 0, 0, 0, [])), (7, .bipush 73, 2, (0, 0, 73, 0, [])), (9, .if_icmp .ge 23, 3, (32, 0, 0, 0, [])), (12, .iload_n 3, 1, (0, 0, 0, 0, [])), (13, .aload_n 0, 1, (0, 0, 0, 0, [])), (14, .aload_n 1, 1, (0, 0, 0, 0, [])), (15, .iload 4, 2, (0, 0, 0, 0, [])), (17, .invokevirtual 83, 3, (7, 2, 0, 0, [])), (20, .iload_n 2, 1, (0, 0, 0, 0, [])), (21, .ishr, 1, (0, 0, 0, 0, [])), (22, .iconst 1, 1, (0, 0, 1, 0, [])), (23, .iand, 1, (0, 0, 0, 0, [])), (24, .iadd, 1, (0, 0, 0, 0, [])), (25, .istore_n 3, 1, (0, 0, 0, 0, [])), (26, .iinc 4 1, 3, (0, 0, 1, 0, [])), (29, .goto (-24), 3, (5, 0, 0, 0, [])), (32, .iload_n 3, 1, (0, 0, 0, 0, [])), (33, .ireturn, 1, (0, 0, 0, 0, []))]
def g_k9 : List (Nat × g_I) := [(0, .iconst 0, 1, (0, 0, 0, 0, [])), (1, .istore_n 2, 1, (0, 0, 0, 0, [])), (2, .iload_n 2, 1, (0, 0, 0, 0, [])), (3, .bipush 73, 2, (0, 0, 73, 0, [])), (5, .if_icmp .ge 21, 3, (26, 0, 0, 0, [])), (8, .aload_n 0, 1, (0, 0, 0, 0, [])), (9, .getfield 19, 3, (1, 2, 0, 0, [])), (12, .iload_n 2, 1, (0, 0, 0, 0, [])), (13, .aload_n 0, 1, (0, 0, 0, 0, [])), (14, .aload_n 1, 1, (0, 0, 0, 0, [])), (15, .iload_n 2, 1, (0, 0, 0, 0, [])), (16, .invokevirtual 83, 3, (7, 2, 0, 0, [])), (19, .iastore, 1, (0, 0, 0, 0, [])), (20, .iinc 2 1, 3, (0, 0, 1, 0, [])), (23, .goto (-21), 3, (2, 0, 0, 0, [])), (26, .return_, 1, (0, 0, 0, 0, []))]
def g_k10 : List (Nat × g_I) := [(0, .aload_n 0, 1, (0, 0, 0, 0, [])), (1, .aload_n 1, 1, (0, 0, 0, 0, [])), (2, .iload_n 2, 1, (0, 0, 0, 0, [])), (3, .invokevirtual 87, 3, (11, 2, 0, 0, [])), (6, .ldc 58, 2, (0, 0, -1000000, 0, [])), (8, .istore_n 3, 1, (0, 0, 0, 0, [])), (9, .iconst (-1), 1, (0, 0, -1, 0, [])), (10, .istore 4, 2, (0, 0, 0, 0, [])), (12, .iconst 0, 1, (0, 0, 0, 0, [])), (13, .istore 5, 2, (0, 0, 0, 0, [])), (15, .iload 5, 2, (0, 0, 0, 0, [])), (17, .bipush 81, 2, (0, 0, 81, 0, [])), (19, .if_icmp .ge 42, 3, (61, 0, 0, 0, [])), (22, .aload_n 1, 1, (0, 0, 0, 0, [])), (23, .iload 5, 2, (0, 0, 0, 0, [])), (25, .invokevirtual 90, 3, (52, 1, 0, 0, [])), (28, .ifCond .eq 27, 3, (55, 0, 0, 0, [])), (31, .aload_n 0, 1, (0, 0, 0, 0, [])), (32, .getfield 22, 3, (1, 3, 0, 0, [])), (35, .iload 5, 2, (0, 0, 0, 0, [])), (37, .iaload, 1, (0, 0, 0, 0, [])), (38, .iload 4, 2, (0, 0, 0, 0, [])), (40, .if_icmp .le 15, 3, (55, 0, 0, 0, [])), (43, .iload 5, 2, (0, 0, 0, 0, [])), (45, .istore_n 3, 1, (0, 0, 0, 0, [])), (46, .aload_n 0, 1, (0, 0, 0, 0, [])), (47, .getfield 22, 3, (1, 3, 0, 0, [])), (50, .iload 5, 2, (0, 0, 0, 0, [])), (52, .iaload, 1, (0, 0, 0, 0, [])), (53, .istore 4, 2, (0, 0, 0, 0, [])), (55, .iinc 5 1, 3, (0, 0, 1, 0, [])), (58, .goto (-43), 3, (15, 0, 0, 0, [])), (61, .iload_n 3, 1, (0, 0, 0, 0, [])), (62, .ireturn, 1, (0, 0, 0, 0, []))]
def g_k11 : List (Nat × g_I) := [(0, .aload_n 0, 1, (0, 0, 0, 0, [])), (1, .getfield 22, 3, (1, 3, 0, 0, [])), (4, .iconst 0, 1, (0, 0, 0, 0, [])), (5, .invokestatic 93, 3, (192, 2, 0, 0, [])), (8, .iconst 0, 1, (0, 0, 0, 0, [])), (9, .istore_n 3, 1, (0, 0, 0, 0, [])), (10, .iload_n 3, 1, (0, 0, 0, 0, [])), (11, .bipush 73, 2, (0, 0, 73, 0, [])), (13, .if_icmp .ge 70, 3, (83, 0, 0, 0, [])), (16, .aload_n 1, 1, (0, 0, 0, 0, [])), (17, .getfield 63, 3, (5, 10, 0, 0, [])), (20, .iload_n 3, 1, (0, 0, 0, 0, [])), (21, .iaload, 1, (0, 0, 0, 0, [])), (22, .iconst 1, 1, (0, 0, 1, 0, [])), (23, .if_icmp .ne 6, 3, (29, 0, 0, 0, [])), (26, .goto 51, 3, (77, 0, 0, 0, [])), (29, .aload_n 0, 1, (0, 0, 0, 0, [])), (30, .aload_n 1, 1, (0, 0, 0, 0, [])), (31, .iload_n 3, 1, (0, 0, 0, 0, [])), (32, .invokevirtual 66, 3, (5, 2, 0, 0, [])), (35, .iconst 0, 1, (0, 0, 0, 0, [])), (36, .istore 4, 2, (0, 0, 0, 0, [])), (38, .iload 4, 2, (0, 0, 0, 0, [])), (40, .bipush 81, 2, (0, 0, 81, 0, [])), (42, .if_icmp .ge 35, 3, (77, 0, 0, 0, [])), (45, .aload_n 0, 1, (0, 0, 0, 0, [])), (46, .getfield 22, 3, (1, 3, 0, 0, [])), (49, .iload 4, 2, (0, 0, 0, 0, [])), (51, .dup2, 1, (0, 0, 0, 0, [])), (52, .iaload, 1, (0, 0, 0, 0, [])), (53, .aload_n 0, 1, (0, 0, 0, 0, [])), (54, .iload_n 2, 1, (0, 0, 0, 0, [])), (55, .iload 4, 2, (0, 0, 0, 0, [])), (57, .iload_n 3, 1, (0, 0, 0, 0, [])), (58, .invokevirtual 79, 3, (12, 3, 0, 0, [])), (61, .ifCond .eq 7, 3, (68, 0, 0, 0, [])), (64, .iconst 1, 1, (0, 0, 1, 0, [])), (65, .goto 4, 3, (69, 0, 0, 0, [])), (68, .iconst 0, 1, (0, 0, 0, 0, [])), (69, .iadd, 1, (0, 0, 0, 0, [])), (70, .iastore, 1, (0, 0, 0, 0, [])), (71, .iinc 4 1, 3, (0, 0, 1, 0, [])), (74, .goto (-36), 3, (38, 0, 0, 0, [])), (77, .iinc 3 1, 3, (0, 0, 1, 0, [])), (80, .goto (-70), 3, (10, 0, 0, 0, [])), (83, .return_, 1, (0, 0, 0, 0, []))]
def g_k12 : List (Nat × g_I) := [(0, .aload_n 0, 1, (0, 0, 0, 0, [])), (1, .iload_n 2, 1, (0, 0, 0, 0, [])), (2, .invokevirtual 99, 3, (6, 1, 0, 0, [])), (5, .istore 4, 2, (0, 0, 0, 0, [])), (7, .iload_n 3, 1, (0, 0, 0, 0, [])), (8, .bipush 30, 2, (0, 0, 30, 0, [])), (10, .if_icmp .lt 13, 3, (23, 0, 0, 0, [])), (13, .iload_n 3, 1, (0, 0, 0, 0, [])), (14, .bipush 42, 2, (0, 0, 42, 0, [])), (16, .if_icmp .gt 7, 3, (23, 0, 0, 0, [])), (19, .iconst 1, 1, (0, 0, 1, 0, [])), (20, .goto 4, 3, (24, 0, 0, 0, [])), (23, .iconst 0, 1, (0, 0, 0, 0, [])), (24, .istore 5, 2, (0, 0, 0, 0, [])), (26, .iload_n 1, 1, (0, 0, 0, 0, [])), (27, .tableswitch 81 0 3 #[29, 32, 43, 59], 29, (108, 0, 0, 0, [56, 59, 70, 86])), (56, .iload 4, 2, (0, 0, 0, 0, [])), (58, .ireturn, 1, (1, 0, 0, 0, [])), (59, .iload 4, 2, (0, 0, 0, 0, [])), (61, .ifCond .ne 7, 3, (68, 0, 0, 0, [])), (64, .iconst 1, 1, (0, 0, 1, 0, [])), (65, .goto 4, 3, (69, 0, 0, 0, [])), (68, .iconst 0, 1, (0, 0, 0, 0, [])), (69, .ireturn, 1, (1, 0, 0, 0, [])), (70, .iload 4, 2, (0, 0, 0, 0, [])), (72, .ifCond .eq 12, 3, (84, 0, 0, 0, [])), (75, .iload 5, 2, (0, 0, 0, 0, [])), (77, .ifCond .eq 7, 3, (84, 0, 0, 0, [])), (80, .iconst 1, 1, (0, 0, 1, 0, [])), (81, .goto 4, 3, (85, 0, 0, 0, [])), (84, .iconst 0, 1, (0, 0, 0, 0, [])), (85, .ireturn, 1, (1, 0, 0, 0, [])), (86, .iload 4, 2, (0, 0, 0, 0, [])), (88, .ifCond .eq 8, 3, (96, 0, 0, 0, [])), (91, .iload 5, 2, (0, 0, 0, 0, [])), (93, .ifCond .ne 9, 3, (102, 0, 0, 0, [])), (96, .iload_n 3, 1, (0, 0, 0, 0, [])), (97, .bipush 36, 2, (0, 0, 36, 0, [])), (99, .if_icmp .ne 7, 3, (106, 0, 0, 0, [])), (102, .iconst 1, 1, (0, 0, 1, 0, [])), (103, .goto 4, 3, (107, 0, 0, 0, [])), (106, .iconst 0, 1, (0, 0, 0, 0, [])), (107, .ireturn, 1, (1, 0, 0, 0, [])), (108, .iload 4, 2, (0, 0, 0, 0, [])), (110, .ifCond .ne 19, 3, (129, 0, 0, 0, [])), (113, .iload_n 3, 1, (0, 0, 0, 0, [])), (114, .bipush 12, 2, (0, 0, 12, 0, [])), (116, .if_icmp .lt 9, 3, (125, 0, 0, 0, [])), (119, .iload_n 3, 1, (0, 0, 0, 0, [])), (120, .bipush 60, 2, (0, 0, 60, 0, [])), (122, .if_icmp .le 7, 3, (129, 0, 0, 0, [])), (125, .iconst 1, 1, (0, 0, 1, 0, [])), (126, .goto 4, 3, (130, 0, 0, 0, [])), (129, .iconst 0, 1, (0, 0, 0, 0, [])), (130, .ireturn, 1, (1, 0, 0, 0, []))]
def g_k13 : List (Nat × g_I) := [(0, .aload_n 0, 1, (0, 0, 0, 0, [])), (1, .iconst 0, 1, (0, 0, 0, 0, [])), (2, .putfield 9, 3, (2, 2, 0, 0, [])), (5, .aload_n 0, 1, (0, 0, 0, 0, [])), (6, .iconst 0, 1, (0, 0, 0, 0, [])), (7, .putfield 24, 3, (2, 6, 0, 0, [])), (10, .aload_n 0, 1, (0, 0, 0, 0, [])), (11, .getfield 37, 3, (2, 1, 0, 0, [])), (14, .invokevirtual 41, 3, (42, 0, 0, 0, [])), (17, .aload_n 0, 1, (0, 0, 0, 0, [])), (18, .invokevirtual 46, 3, (14, 0, 0, 0, [])), (21, .istore_n 1, 1, (0, 0, 0, 0, [])), (22, .iconst 0, 1, (0, 0, 0, 0, [])), (23, .istore_n 2, 1, (0, 0, 0, 0, [])), (24, .iload_n 1, 1, (0, 0, 0, 0, [])), (25, .ifCond .eq 77, 3, (102, 0, 0, 0, [])), (28, .iload_n 2, 1, (0, 0, 0, 0, [])), (29, .bipush 28, 2, (0, 0, 28, 0, [])), (31, .if_icmp .gt 71, 3, (102, 0, 0, 0, [])), (34, .aload_n 0, 1, (0, 0, 0, 0, [])), (35, .invokevirtual 50, 3, (23, 0, 0, 0, [])), (38, .aload_n 0, 1, (0, 0, 0, 0, [])), (39, .getfield 15, 3, (2, 3, 0, 0, [])), (42, .ifCond .ne 5, 3, (47, 0, 0, 0, [])), (45, .iconst 1, 1, (0, 0, 1, 0, [])), (46, .ireturn, 1, (1, 0, 0, 0, [])), (47, .aload_n 0, 1, (0, 0, 0, 0, [])), (48, .ldc 53, 2, (21, 1, 0, 0, [])), (50, .invokevirtual 55, 3, (21, 1, 0, 0, [])), (53, .ifCond .eq 21, 3, (74, 0, 0, 0, [])), (56, .aload_n 0, 1, (0, 0, 0, 0, [])), (57, .getfield 37, 3, (2, 1, 0, 0, [])), (60, .getfield 59, 3, (5, 8, 0, 0, [])), (63, .ifCond .ne 11, 3, (74, 0, 0, 0, [])), (66, .aload_n 0, 1, (0, 0, 0, 0, [])), (67, .invokevirtual 62, 3, (15, 0, 0, 0, [])), (70, .istore_n 1, 1, (0, 0, 0, 0, [])), (71, .goto 25, 3, (96, 0, 0, 0, [])), (74, .aload_n 0, 1, (0, 0, 0, 0, [])), (75, .ldc 65, 2, (22, 1, 0, 0, [])), (77, .invokevirtual 55, 3, (21, 1, 0, 0, [])), (80, .ifCond .eq 10, 3, (90, 0, 0, 0, [])), (83, .aload_n 0, 1, (0, 0, 0, 0, [])), (84, .invokevirtual 67, 3, (16, 0, 0, 0, [])), (87, .goto 8, 3, (95, 0, 0, 0, [])), (90, .aload_n 0, 1, (0, 0, 0, 0, [])), (91, .iconst 1, 1, (0, 0, 1, 0, [])), (92, .invokevirtual 70, 3, (22, 1, 0, 0, [])), (95, .istore_n 1, 1, (0, 0, 0, 0, [])), (96, .iinc 2 1, 3, (0, 0, 1, 0, [])), (99, .goto (-75), 3, (24, 0, 0, 0, [])), (102, .iconst 0, 1, (0, 0, 0, 0, [])), (103, .ireturn, 1, (1, 0, 0, 0, []))]
def g_k14 : List (Nat × g_I) := [(0, .aload_n 0, 1, (0, 0, 0, 0, [])), (1, .invokevirtual 50, 3, (23, 0, 0, 0, [])), (4, .aload_n 0, 1, (0, 0, 0, 0, [])), (5, .ldc 74, 2, (20, 1, 0, 0, [])), (7, .invokevirtual 55, 3, (21, 1, 0, 0, [])), (10, .ifCond .ne 9, 3, (19, 0, 0, 0, [])), (13, .aload_n 0, 1, (0, 0, 0, 0, [])), (14, .iconst 1, 1, (0, 0, 1, 0, [])), (15, .invokevirtual 70, 3, (22, 1, 0, 0, [])), (18, .ireturn, 1, (1, 0, 0, 0, [])), (19, .aload_n 0, 1, (0, 0, 0, 0, [])), (20, .iconst 0, 1, (0, 0, 0, 0, [])), (21, .bipush 8, 2, (0, 0, 8, 0, [])), (23, .invokevirtual 76, 3, (19, 2, 0, 0, [])), (26, .ifCond .ne 5, 3, (31, 0, 0, 0, [])), (29, .iconst 0, 1, (0, 0, 0, 0, [])), (30, .ireturn, 1, (1, 0, 0, 0, [])), (31, .aload_n 0, 1, (0, 0, 0, 0, [])), (32, .getfield 21, 3, (2, 5, 0, 0, [])), (35, .istore_n 1, 1, (0, 0, 0, 0, [])), (36, .aload_n 0, 1, (0, 0, 0, 0, [])), (37, .iconst 0, 1, (0, 0, 0, 0, [])), (38, .bipush 8, 2, (0, 0, 8, 0, [])), (40, .invokevirtual 76, 3, (19, 2, 0, 0, [])), (43, .ifCond .ne 5, 3, (48, 0, 0, 0, [])), (46, .iconst 0, 1, (0, 0, 0, 0, [])), (47, .ireturn, 1, (1, 0, 0, 0, [])), (48, .aload_n 0, 1, (0, 0, 0, 0, [])), (49, .getfield 21, 3, (2, 5, 0, 0, [])), (52, .istore_n 2, 1, (0, 0, 0, 0, [])), (53, .aload_n 0, 1, (0, 0, 0, 0, [])), (54, .iconst 1, 1, (0, 0, 1, 0, [])), (55, .bipush 8, 2, (0, 0, 8, 0, [])), (57, .invokevirtual 76, 3, (19, 2, 0, 0, [])), (60, .ifCond .ne 5, 3, (65, 0, 0, 0, [])), (63, .iconst 0, 1, (0, 0, 0, 0, [])), (64, .ireturn, 1, (1, 0, 0, 0, [])), (65, .aload_n 0, 1, (0, 0, 0, 0, [])), (66, .getfield 37, 3, (2, 1, 0, 0, [])), (69, .iload_n 1, 1, (0, 0, 0, 0, [])), (70, .iload_n 2, 1, (0, 0, 0, 0, [])), (71, .aload_n 0, 1, (0, 0, 0, 0, [])), (72, .getfield 21, 3, (2, 5, 0, 0, [])), (75, .invokevirtual 80, 3, (44, 3, 0, 0, [])), (78, .aload_n 0, 1, (0, 0, 0, 0, [])), (79, .invokevirtual 84, 3, (20, 0, 0, 0, [])), (82, .ireturn, 1, (1, 0, 0, 0, []))]
def g_k15 : List (Nat × g_I) := [(0, .aload_n 0, 1, (0, 0, 0, 0, [])), (1, .getfield 24, 3, (2, 6, 0, 0, [])), (4, .bipush 20, 2, (0, 0, 20, 0, [])), (6, .if_icmp .lt 9, 3, (15, 0, 0, 0, [])), (9, .aload_n 0, 1, (0, 0, 0, 0, [])), (10, .iconst 3, 1, (0, 0, 3, 0, [])), (11, .invokevirtual 70, 3, (22, 1, 0, 0, [])), (14, .ireturn, 1, (1, 0, 0, 0, [])), (15, .aload_n 0, 1, (0, 0, 0, 0, [])), (16, .dup, 1, (0, 0, 0, 0, [])), (17, .getfield 24, 3, (2, 6, 0, 0, [])), (20, .iconst 1, 1, (0, 0, 1, 0, [])), (21, .iadd, 1, (0, 0, 0, 0, [])), (22, .putfield 24, 3, (2, 6, 0, 0, [])), (25, .aload_n 0, 1, (0, 0, 0, 0, [])), (26, .invokevirtual 87, 3, (18, 0, 0, 0, [])), (29, .istore_n 1, 1, (0, 0, 0, 0, [])), (30, .iload_n 1, 1, (0, 0, 0, 0, [])), (31, .ldc 91, 2, (0, 0, -1000000, 0, [])), (33, .if_icmp .ne 5, 3, (38, 0, 0, 0, [])), (36, .iconst 0, 1, (0, 0, 0, 0, [])), (37, .ireturn, 1, (1, 0, 0, 0, [])), (38, .aload_n 0, 1, (0, 0, 0, 0, [])), (39, .getfield 37, 3, (2, 1, 0, 0, [])), (42, .iload_n 1, 1, (0, 0, 0, 0, [])), (43, .invokevirtual 92, 3, (53, 1, 0, 0, [])), (46, .ifCond .eq 9, 3, (55, 0, 0, 0, [])), (49, .aload_n 0, 1, (0, 0, 0, 0, [])), (50, .iconst 2, 1, (0, 0, 2, 0, [])), (51, .invokevirtual 70, 3, (22, 1, 0, 0, [])), (54, .ireturn, 1, (1, 0, 0, 0, [])), (55, .aload_n 0, 1, (0, 0, 0, 0, [])), (56, .getfield 37, 3, (2, 1, 0, 0, [])), (59, .iload_n 1, 1, (0, 0, 0, 0, [])), (60, .invokevirtual 95, 3, (45, 1, 0, 0, [])), (63, .aload_n 0, 1, (0, 0, 0, 0, [])), (64, .invokevirtual 84, 3, (20, 0, 0, 0, [])), (67, .ireturn, 1, (1, 0, 0, 0, []))]
def g_k16 : List (Nat × g_I) := [(0, .aload_n 0, 1, (0, 0, 0, 0, [])), (1, .getfield 37, 3, (2, 1, 0, 0, [])), (4, .getfield 59, 3, (5, 8, 0, 0, [])), (7, .bipush 8, 2, (0, 0, 8, 0, [])), (9, .if_icmp .lt 9, 3, (18, 0, 0, 0, [])), (12, .aload_n 0, 1, (0, 0, 0, 0, [])), (13, .iconst 3, 1, (0, 0, 3, 0, [])), (14, .invokevirtual 70, 3, (22, 1, 0, 0, [])), (17, .ireturn, 1, (1, 0, 0, 0, [])), (18, .aload_n 0, 1, (0, 0, 0, 0, [])), (19, .invokevirtual 50, 3, (23, 0, 0, 0, [])), (22, .aload_n 0, 1, (0, 0, 0, 0, [])), (23, .invokevirtual 99, 3, (17, 0, 0, 0, [])), (26, .istore_n 1, 1, (0, 0, 0, 0, [])), (27, .iload_n 1, 1, (0, 0, 0, 0, [])), (28, .invokestatic 102, 3, (104, 1, 0, 0, [])), (31, .ifCond .ne 9, 3, (40, 0, 0, 0, [])), (34, .aload_n 0, 1, (0, 0, 0, 0, [])), (35, .iconst 1, 1, (0, 0, 1, 0, [])), (36, .invokevirtual 70, 3, (22, 1, 0, 0, [])), (39, .ireturn, 1, (1, 0, 0, 0, [])), (40, .aload_n 0, 1, (0, 0, 0, 0, [])), (41, .invokevirtual 87, 3, (18, 0, 0, 0, [])), (44, .istore_n 2, 1, (0, 0, 0, 0, [])), (45, .iload_n 2, 1, (0, 0, 0, 0, [])), (46, .ldc 91, 2, (0, 0, -1000000, 0, [])), (48, .if_icmp .ne 5, 3, (53, 0, 0, 0, [])), (51, .iconst 0, 1, (0, 0, 0, 0, [])), (52, .ireturn, 1, (1, 0, 0, 0, [])), (53, .aload_n 0, 1, (0, 0, 0, 0, [])), (54, .getfield 37, 3, (2, 1, 0, 0, [])), (57, .iload_n 2, 1, (0, 0, 0, 0, [])), (58, .invokevirtual 105, 3, (52, 1, 0, 0, [])), (61, .ifCond .ne 9, 3, (70, 0, 0, 0, [])), (64, .aload_n 0, 1, (0, 0, 0, 0, [])), (65, .iconst 2, 1, (0, 0, 2, 0, [])), (66, .invokevirtual 70, 3, (22, 1, 0, 0, [])), (69, .ireturn, 1, (1, 0, 0, 0, [])), (70, .aload_n 0, 1, (0, 0, 0, 0, [])), (71, .iconst 0, 1, (0, 0, 0, 0, [])), (72, .bipush 99, 2, (0, 0, 99, 0, [])), (74, .invokevirtual 76, 3, (19, 2, 0, 0, [])), (77, .ifCond .ne 5, 3, (82, 0, 0, 0, [])), (80, .iconst 0, 1, (0, 0, 0, 0, [])), (81, .ireturn, 1, (1, 0, 0, 0, [])), (82, .aload_n 0, 1, (0, 0, 0, 0, [])), (83, .getfield 37, 3, (2, 1, 0, 0, [])), (86, .iload_n 1, 1, (0, 0, 0, 0, [])), (87, .iload_n 2, 1, (0, 0, 0, 0, [])), (88, .aload_n 0, 1, (0, 0, 0, 0, [])), (89, .getfield 21, 3, (2, 5, 0, 0, [])), (92, .invokevirtual 108, 3, (46, 3, 0, 0, [])), (95, .aload_n 0, 1, (0, 0, 0, 0, [])), (96, .invokevirtual 84, 3, (20, 0, 0, 0, [])), (99, .ireturn, 1, (1, 0, 0, 0, []))]
def g_k17 : List (Nat × g_I) := [(0, .aload_n 0, 1, (0, 0, 0, 0, [])), (1, .ldc 111, 2, (23, 1, 0, 0, [])), (3, .invokevirtual 55, 3, (21, 1, 0, 0, [])), (6, .ifCond .eq 5, 3, (11, 0, 0, 0, [])), (9, .iconst 0, 1, (0, 0, 0, 0, [])), (10, .ireturn, 1, (0, 0, 0, 0, [])), (11, .aload_n 0, 1, (0, 0, 0, 0, [])), (12, .ldc 113, 2, (24, 1, 0, 0, [])), (14, .invokevirtual 55, 3, (21, 1, 0, 0, [])), (17, .ifCond .eq 5, 3, (22, 0, 0, 0, [])), (20, .iconst 1, 1, (0, 0, 1, 0, [])), (21, .ireturn, 1, (0, 0, 0, 0, [])), (22, .aload_n 0, 1, (0, 0, 0, 0, [])), (23, .ldc 115, 2, (25, 1, 0, 0, [])), (25, .invokevirtual 55, 3, (21, 1, 0, 0, [])), (28, .ifCond .eq 5, 3, (33, 0, 0, 0, [])), (31, .iconst 2, 1, (0, 0, 2, 0, [])), (32, .ireturn, 1, (0, 0, 0, 0, [])), (33, .aload_n 0, 1, (0, 0, 0, 0, [])), (34, .ldc 117, 2, (26, 1, 0, 0, [])), (36, .invokevirtual 55, 3, (21, 1, 0, 0, [])), (39, .ifCond .eq 5, 3, (44, 0, 0, 0, [])), (42, .iconst 3, 1, (0, 0, 3, 0, [])), (43, .ireturn, 1, (0, 0, 0, 0, [])), (44, .aload_n 0, 1, (0, 0, 0, 0, [])), (45, .ldc 119, 2, (27, 1, 0, 0, [])), (47, .invokevirtual 55, 3, (21, 1, 0, 0, [])), (50, .ifCond .eq 7, 3, (57, 0, 0, 0, [])), (53, .iconst 4, 1, (0, 0, 4, 0, [])), (54, .goto 5, 3, (59, 0, 0, 0, [])), (57, .ldc 91, 2, (0, 0, -1000000, 0, [])), (59, .ireturn, 1, (0, 0, 0, 0, []))]
def g_k18 : List (Nat × g_I) := [(0, .aload_n 0, 1, (0, 0, 0, 0, [])), (1, .iconst 0, 1, (0, 0, 0, 0, [])), (2, .bipush 8, 2, (0, 0, 8, 0, [])), (4, .invokevirtual 76, 3, (19, 2, 0, 0, [])), (7, .ifCond .ne 6, 3, (13, 0, 0, 0, [])), (10, .ldc 91, 2, (0, 0, -1000000, 0, [])), (12, .ireturn, 1, (0, 0, 0, 0, [])), (13, .aload_n 0, 1, (0, 0, 0, 0, [])), (14, .getfield 21, 3, (2, 5, 0, 0, [])), (17, .istore_n 1, 1, (0, 0, 0, 0, [])), (18, .aload_n 0, 1, (0, 0, 0, 0, [])), (19, .iconst 0, 1, (0, 0, 0, 0, [])), (20, .bipush 8, 2, (0, 0, 8, 0, [])), (22, .invokevirtual 76, 3, (19, 2, 0, 0, [])), (25, .ifCond .eq 14, 3, (39, 0, 0, 0, [])), (28, .iload_n 1, 1, (0, 0, 0, 0, [])), (29, .aload_n 0, 1, (0, 0, 0, 0, [])), (30, .getfield 21, 3, (2, 5, 0, 0, [])), (33, .invokestatic 121, 3, (106, 2, 0, 0, [])), (36, .goto 5, 3, (41, 0, 0, 0, [])), (39, .ldc 91, 2, (0, 0, -1000000, 0, [])), (41, .ireturn, 1, (0, 0, 0, 0, []))]
def g_k19 : List (Nat × g_I) := [(0, .aload_n 0, 1, (0, 0, 0, 0, [])), (1, .invokevirtual 50, 3, (23, 0, 0, 0, [])), (4, .aload_n 0, 1, (0, 0, 0, 0, [])), (5, .getfield 15, 3, (2, 3, 0, 0, [])), (8, .iconst 2, 1, (0, 0, 2, 0, [])), (9, .if_icmp .eq 9, 3, (18, 0, 0, 0, [])), (12, .aload_n 0, 1, (0, 0, 0, 0, [])), (13, .iconst 1, 1, (0, 0, 1, 0, [])), (14, .invokevirtual 70, 3, (22, 1, 0, 0, [])), (17, .ireturn, 1, (1, 0, 0, 0, [])), (18, .aload_n 0, 1, (0, 0, 0, 0, [])), (19, .getfield 21, 3, (2, 5, 0, 0, [])), (22, .iload_n 1, 1, (0, 0, 0, 0, [])), (23, .if_icmp .lt 11, 3, (34, 0, 0, 0, [])), (26, .aload_n 0, 1, (0, 0, 0, 0, [])), (27, .getfield 21, 3, (2, 5, 0, 0, [])), (30, .iload_n 2, 1, (0, 0, 0, 0, [])), (31, .if_icmp .le 11, 3, (42, 0, 0, 0, [])), (34, .aload_n 0, 1, (0, 0, 0, 0, [])), (35, .iconst 2, 1, (0, 0, 2, 0, [])), (36, .invokevirtual 70, 3, (22, 1, 0, 0, [])), (39, .ifCond .eq 7, 3, (46, 0, 0, 0, [])), (42, .iconst 1, 1, (0, 0, 1, 0, [])), (43, .goto 4, 3, (47, 0, 0, 0, [])), (46, .iconst 0, 1, (0, 0, 0, 0, [])), (47, .ireturn, 1, (1, 0, 0, 0, []))]
def g_k20 : List (Nat × g_I) := [(0, .aload_n 0, 1, (0, 0, 0, 0, [])), (1, .invokevirtual 50, 3, (23, 0, 0, 0, [])), (4, .aload_n 0, 1, (0, 0, 0, 0, [])), (5, .getfield 15, 3, (2, 3, 0, 0, [])), (8, .iconst 3, 1, (0, 0, 3, 0, [])), (9, .if_icmp .eq 11, 3, (20, 0, 0, 0, [])), (12, .aload_n 0, 1, (0, 0, 0, 0, [])), (13, .iconst 1, 1, (0, 0, 1, 0, [])), (14, .invokevirtual 70, 3, (22, 1, 0, 0, [])), (17, .ifCond .eq 7, 3, (24, 0, 0, 0, [])), (20, .iconst 1, 1, (0, 0, 1, 0, [])), (21, .goto 4, 3, (25, 0, 0, 0, [])), (24, .iconst 0, 1, (0, 0, 0, 0, [])), (25, .ireturn, 1, (1, 0, 0, 0, []))]
def g_k21 : List (Nat × g_I) := [(0, .aload_n 0, 1, (0, 0, 0, 0, [])), (1, .getfield 15, 3, (2, 3, 0, 0, [])), (4, .iconst 1, 1, (0, 0, 1, 0, [])), (5, .if_icmp .ne 26, 3, (31, 0, 0, 0, [])), (8, .aload_n 0, 1, (0, 0, 0, 0, [])), (9, .getfield 33, 3, (2, 0, 0, 0, [])), (12, .aload_n 1, 1, (0, 0, 0, 0, [])), (13, .aload_n 0, 1, (0, 0, 0, 0, [])), (14, .getfield 18, 3, (2, 4, 0, 0, [])), (17, .aload_n 0, 1, (0, 0, 0, 0, [])), (18, .getfield 9, 3, (2, 2, 0, 0, [])), (21, .invokevirtual 125, 3, (41, 3, 0, 0, [])), (24, .ifCond .eq 7, 3, (31, 0, 0, 0, [])), (27, .iconst 1, 1, (0, 0, 1, 0, [])), (28, .goto 4, 3, (32, 0, 0, 0, [])), (31, .iconst 0, 1, (0, 0, 0, 0, [])), (32, .ireturn, 1, (1, 0, 0, 0, []))]
def g_k22 : List (Nat × g_I) := [(0, .aload_n 0, 1, (0, 0, 0, 0, [])), (1, .iload_n 1, 1, (0, 0, 0, 0, [])), (2, .putfield 27, 3, (2, 7, 0, 0, [])), (5, .aload_n 0, 1, (0, 0, 0, 0, [])), (6, .aload_n 0, 1, (0, 0, 0, 0, [])), (7, .getfield 18, 3, (2, 4, 0, 0, [])), (10, .putfield 30, 3, (2, 8, 0, 0, [])), (13, .iconst 0, 1, (0, 0, 0, 0, [])), (14, .ireturn, 1, (1, 0, 0, 0, []))]
def g_k23 : List (Nat × g_I) := [(0, .aload_n 0, 1, (0, 0, 0, 0, [])), (1, .aload_n 0, 1, (0, 0, 0, 0, [])), (2, .getfield 33, 3, (2, 0, 0, 0, [])), (5, .aload_n 0, 1, (0, 0, 0, 0, [])), (6, .getfield 9, 3, (2, 2, 0, 0, [])), (9, .invokevirtual 131, 3, (38, 1, 0, 0, [])), (12, .putfield 18, 3, (2, 4, 0, 0, [])), (15, .aload_n 0, 1, (0, 0, 0, 0, [])), (16, .getfield 33, 3, (2, 0, 0, 0, [])), (19, .aload_n 0, 1, (0, 0, 0, 0, [])), (20, .getfield 18, 3, (2, 4, 0, 0, [])), (23, .invokevirtual 135, 3, (37, 1, 0, 0, [])), (26, .istore_n 1, 1, (0, 0, 0, 0, [])), (27, .iload_n 1, 1, (0, 0, 0, 0, [])), (28, .iconst (-1), 1, (0, 0, -1, 0, [])), (29, .if_icmp .ne 11, 3, (40, 0, 0, 0, [])), (32, .aload_n 0, 1, (0, 0, 0, 0, [])), (33, .iconst 0, 1, (0, 0, 0, 0, [])), (34, .putfield 15, 3, (2, 3, 0, 0, [])), (37, .goto 154, 3, (191, 0, 0, 0, [])), (40, .iload_n 1, 1, (0, 0, 0, 0, [])), (41, .bipush 97, 2, (0, 0, 97, 0, [])), (43, .if_icmp .lt 36, 3, (79, 0, 0, 0, [])), (46, .iload_n 1, 1, (0, 0, 0, 0, [])), (47, .bipush 122, 2, (0, 0, 122, 0, [])), (49, .if_icmp .gt 30, 3, (79, 0, 0, 0, [])), (52, .aload_n 0, 1, (0, 0, 0, 0, [])), (53, .aload_n 0, 1, (0, 0, 0, 0, [])), (54, .getfield 33, 3, (2, 0, 0, 0, [])), (57, .aload_n 0, 1, (0, 0, 0, 0, [])), (58, .getfield 18, 3, (2, 4, 0, 0, [])), (61, .bipush 97, 2, (0, 0, 97, 0, [])), (63, .bipush 122, 2, (0, 0, 122, 0, [])), (65, .invokevirtual 138, 3, (39, 3, 0, 0, [])), (68, .putfield 9, 3, (2, 2, 0, 0, [])), (71, .aload_n 0, 1, (0, 0, 0, 0, [])), (72, .iconst 1, 1, (0, 0, 1, 0, [])), (73, .putfield 15, 3, (2, 3, 0, 0, [])), (76, .goto 115, 3, (191, 0, 0, 0, [])), (79, .iload_n 1, 1, (0, 0, 0, 0, [])), (80, .bipush 48, 2, (0, 0, 48, 0, [])), (82, .if_icmp .lt 84, 3, (166, 0, 0, 0, [])), (85, .iload_n 1, 1, (0, 0, 0, 0, [])), (86, .bipush 57, 2, (0, 0, 57, 0, [])), (88, .if_icmp .gt 78, 3, (166, 0, 0, 0, [])), (91, .aload_n 0, 1, (0, 0, 0, 0, [])), (92, .aload_n 0, 1, (0, 0, 0, 0, [])), (93, .getfield 33, 3, (2, 0, 0, 0, [])), (96, .aload_n 0, 1, (0, 0, 0, 0, [])), (97, .getfield 18, 3, (2, 4, 0, 0, [])), (100, .bipush 48, 2, (0, 0, 48, 0, [])), (102, .bipush 57, 2, (0, 0, 57, 0, [])), (104, .invokevirtual 138, 3, (39, 3, 0, 0, [])), (107, .putfield 9, 3, (2, 2, 0, 0, [])), (110, .aload_n 0, 1, (0, 0, 0, 0, [])), (111, .aload_n 0, 1, (0, 0, 0, 0, [])), (112, .getfield 9, 3, (2, 2, 0, 0, [])), (115, .aload_n 0, 1, (0, 0, 0, 0, [])), (116, .getfield 18, 3, (2, 4, 0, 0, [])), (119, .isub, 1, (0, 0, 0, 0, [])), (120, .iconst 3, 1, (0, 0, 3, 0, [])), (121, .if_icmp .le 7, 3, (128, 0, 0, 0, [])), (124, .iconst 4, 1, (0, 0, 4, 0, [])), (125, .goto 4, 3, (129, 0, 0, 0, [])), (128, .iconst 2, 1, (0, 0, 2, 0, [])), (129, .putfield 15, 3, (2, 3, 0, 0, [])), (132, .aload_n 0, 1, (0, 0, 0, 0, [])), (133, .aload_n 0, 1, (0, 0, 0, 0, [])), (134, .getfield 15, 3, (2, 3, 0, 0, [])), (137, .iconst 2, 1, (0, 0, 2, 0, [])), (138, .if_icmp .ne 21, 3, (159, 0, 0, 0, [])), (141, .aload_n 0, 1, (0, 0, 0, 0, [])), (142, .getfield 33, 3, (2, 0, 0, 0, [])), (145, .aload_n 0, 1, (0, 0, 0, 0, [])), (146, .getfield 18, 3, (2, 4, 0, 0, [])), (149, .aload_n 0, 1, (0, 0, 0, 0, [])), (150, .getfield 9, 3, (2, 2, 0, 0, [])), (153, .invokevirtual 142, 3, (40, 2, 0, 0, [])), (156, .goto 4, 3, (160, 0, 0, 0, [])), (159, .iconst 0, 1, (0, 0, 0, 0, [])), (160, .putfield 21, 3, (2, 5, 0, 0, [])), (163, .goto 28, 3, (191, 0, 0, 0, [])), (166, .aload_n 0, 1, (0, 0, 0, 0, [])), (167, .aload_n 0, 1, (0, 0, 0, 0, [])), (168, .getfield 18, 3, (2, 4, 0, 0, [])), (171, .iconst 1, 1, (0, 0, 1, 0, [])), (172, .iadd, 1, (0, 0, 0, 0, [])), (173, .putfield 9, 3, (2, 2, 0, 0, [])), (176, .aload_n 0, 1, (0, 0, 0, 0, [])), (177, .iload_n 1, 1, (0, 0, 0, 0, [])), (178, .bipush 59, 2, (0, 0, 59, 0, [])), (180, .if_icmp .ne 7, 3, (187, 0, 0, 0, [])), (183, .iconst 3, 1, (0, 0, 3, 0, [])), (184, .goto 4, 3, (188, 0, 0, 0, [])), (187, .iconst 4, 1, (0, 0, 4, 0, [])), (188, .putfield 15, 3, (2, 3, 0, 0, [])), (191, .return_, 1, (0, 0, 0, 0, []))]
def g_k24 : List (Nat × g_I) := [(0, .iload_n 0, 1, (0, 0, 0, 0, [])), (1, .ifCond .lt 13, 3, (14, 0, 0, 0, [])), (4, .iload_n 0, 1, (0, 0, 0, 0, [])), (5, .bipush 8, 2, (0, 0, 8, 0, [])), (7, .if_icmp .ge 7, 3, (14, 0, 0, 0, [])), (10, .iconst 1, 1, (0, 0, 1, 0, [])), (11, .goto 4, 3, (15, 0, 0, 0, [])), (14, .iconst 0, 1, (0, 0, 0, 0, [])), (15, .ireturn, 1, (1, 0, 0, 0, []))]
def g_k25 : List (Nat × g_I) := [(0, .aload_n 0, 1, (0, 0, 0, 0, [])), (1, .getfield 9, 3, (3, 0, 0, 0, [])), (4, .iload_n 1, 1, (0, 0, 0, 0, [])), (5, .iaload, 1, (0, 0, 0, 0, [])), (6, .iconst (-1), 1, (0, 0, -1, 0, [])), (7, .if_icmp .ne 7, 3, (14, 0, 0, 0, [])), (10, .iconst 1, 1, (0, 0, 1, 0, [])), (11, .goto 4, 3, (15, 0, 0, 0, [])), (14, .iconst 0, 1, (0, 0, 0, 0, [])), (15, .ireturn, 1, (1, 0, 0, 0, []))]
def g_k26 : List (Nat × g_I) := [(0, .aload_n 0, 1, (0, 0, 0, 0, [])), (1, .getfield 9, 3, (3, 0, 0, 0, [])), (4, .iload_n 1, 1, (0, 0, 0, 0, [])), (5, .iaload, 1, (0, 0, 0, 0, [])), (6, .aload_n 0, 1, (0, 0, 0, 0, [])), (7, .getfield 9, 3, (3, 0, 0, 0, [])), (10, .iload_n 2, 1, (0, 0, 0, 0, [])), (11, .iaload, 1, (0, 0, 0, 0, [])), (12, .if_icmp .ne 7, 3, (19, 0, 0, 0, [])), (15, .iconst 1, 1, (0, 0, 1, 0, [])), (16, .goto 4, 3, (20, 0, 0, 0, [])), (19, .iconst 0, 1, (0, 0, 0, 0, [])), (20, .ireturn, 1, (1, 0, 0, 0, []))]
def g_k27 : List (Nat × g_I) := [(0, .iload_n 2, 1, (0, 0, 0, 0, [])), (1, .ifCond .lt 23, 3, (24, 0, 0, 0, [])), (4, .iload_n 3, 1, (0, 0, 0, 0, [])), (5, .ifCond .lt 19, 3, (24, 0, 0, 0, [])), (8, .iload_n 3, 1, (0, 0, 0, 0, [])), (9, .aload_n 0, 1, (0, 0, 0, 0, [])), (10, .getfield 13, 3, (3, 1, 0, 0, [])), (13, .iload_n 1, 1, (0, 0, 0, 0, [])), (14, .iaload, 1, (0, 0, 0, 0, [])), (15, .iload_n 2, 1, (0, 0, 0, 0, [])), (16, .isub, 1, (0, 0, 0, 0, [])), (17, .if_icmp .gt 7, 3, (24, 0, 0, 0, [])), (20, .iconst 1, 1, (0, 0, 1, 0, [])), (21, .goto 4, 3, (25, 0, 0, 0, [])), (24, .iconst 0, 1, (0, 0, 0, 0, [])), (25, .ireturn, 1, (1, 0, 0, 0, []))]
def g_k28 : List (Nat × g_I) := [(0, .aload_n 0, 1, (0, 0, 0, 0, [])), (1, .getfield 9, 3, (3, 0, 0, 0, [])), (4, .iload_n 1, 1, (0, 0, 0, 0, [])), (5, .iload_n 2, 1, (0, 0, 0, 0, [])), (6, .iastore, 1, (0, 0, 0, 0, [])), (7, .aload_n 0, 1, (0, 0, 0, 0, [])), (8, .getfield 13, 3, (3, 1, 0, 0, [])), (11, .iload_n 1, 1, (0, 0, 0, 0, [])), (12, .iload_n 3, 1, (0, 0, 0, 0, [])), (13, .iastore, 1, (0, 0, 0, 0, [])), (14, .aload_n 0, 1, (0, 0, 0, 0, [])), (15, .getfield 18, 3, (3, 2, 0, 0, [])), (18, .iload_n 1, 1, (0, 0, 0, 0, [])), (19, .aaload, 1, (0, 0, 0, 0, [])), (20, .iconst 0, 1, (0, 0, 0, 0, [])), (21, .invokestatic 21, 3, (192, 2, 0, 0, [])), (24, .return_, 1, (0, 0, 0, 0, []))]
def g_k29 : List (Nat × g_I) := [(0, .aload_n 0, 1, (0, 0, 0, 0, [])), (1, .getfield 9, 3, (3, 0, 0, 0, [])), (4, .iload_n 1, 1, (0, 0, 0, 0, [])), (5, .iconst (-1), 1, (0, 0, -1, 0, [])), (6, .iastore, 1, (0, 0, 0, 0, [])), (7, .aload_n 0, 1, (0, 0, 0, 0, [])), (8, .getfield 13, 3, (3, 1, 0, 0, [])), (11, .iload_n 1, 1, (0, 0, 0, 0, [])), (12, .iaload, 1, (0, 0, 0, 0, [])), (13, .ireturn, 1, (0, 0, 0, 0, []))]
def g_k30 : List (Nat × g_I) := [(0, .aload_n 0, 1, (0, 0, 0, 0, [])), (1, .getfield 18, 3, (3, 2, 0, 0, [])), (4, .iload_n 1, 1, (0, 0, 0, 0, [])), (5, .aaload, 1, (0, 0, 0, 0, [])), (6, .iload_n 2, 1, (0, 0, 0, 0, [])), (7, .aload_n 0, 1, (0, 0, 0, 0, [])), (8, .getfield 9, 3, (3, 0, 0, 0, [])), (11, .iload_n 1, 1, (0, 0, 0, 0, [])), (12, .iaload, 1, (0, 0, 0, 0, [])), (13, .ifCond .ne 8, 3, (21, 0, 0, 0, [])), (16, .iload_n 3, 1, (0, 0, 0, 0, [])), (17, .i2b, 1, (0, 0, 0, 0, [])), (18, .goto 19, 3, (37, 0, 0, 0, [])), (21, .aload_n 0, 1, (0, 0, 0, 0, [])), (22, .getfield 9, 3, (3, 0, 0, 0, [])), (25, .iload_n 1, 1, (0, 0, 0, 0, [])), (26, .iaload, 1, (0, 0, 0, 0, [])), (27, .iconst 1, 1, (0, 0, 1, 0, [])), (28, .if_icmp .ne 8, 3, (36, 0, 0, 0, [])), (31, .iload_n 3, 1, (0, 0, 0, 0, [])), (32, .i2s, 1, (0, 0, 0, 0, [])), (33, .goto 4, 3, (37, 0, 0, 0, [])), (36, .iload_n 3, 1, (0, 0, 0, 0, [])), (37, .iastore, 1, (0, 0, 0, 0, [])), (38, .aload_n 0, 1, (0, 0, 0, 0, [])), (39, .getfield 18, 3, (3, 2, 0, 0, [])), (42, .iload_n 1, 1, (0, 0, 0, 0, [])), (43, .aaload, 1, (0, 0, 0, 0, [])), (44, .iload_n 2, 1, (0, 0, 0, 0, [])), (45, .iaload, 1, (0, 0, 0, 0, [])), (46, .ireturn, 1, (0, 0, 0, 0, []))]
def g_k31 : List (Nat × g_I) := [(0, .aload_n 0, 1, (0, 0, 0, 0, [])), (1, .getfield 18, 3, (3, 2, 0, 0, [])), (4, .iload_n 1, 1, (0, 0, 0, 0, [])), (5, .aaload, 1, (0, 0, 0, 0, [])), (6, .iload_n 2, 1, (0, 0, 0, 0, [])), (7, .iaload, 1, (0, 0, 0, 0, [])), (8, .ireturn, 1, (0, 0, 0, 0, []))]
def g_k32 : List (Nat × g_I) := [(0, .aload_n 0, 1, (0, 0, 0, 0, [])), (1, .getfield 18, 3, (3, 2, 0, 0, [])), (4, .iload_n 1, 1, (0, 0, 0, 0, [])), (5, .aaload, 1, (0, 0, 0, 0, [])), (6, .iload_n 2, 1, (0, 0, 0, 0, [])), (7, .aload_n 0, 1, (0, 0, 0, 0, [])), (8, .getfield 18, 3, (3, 2, 0, 0, [])), (11, .iload_n 3, 1, (0, 0, 0, 0, [])), (12, .aaload, 1, (0, 0, 0, 0, [])), (13, .iload 4, 2, (0, 0, 0, 0, [])), (15, .iload 5, 2, (0, 0, 0, 0, [])), (17, .invokestatic 27, 3, (0, 5, 0, 0, [1])), (20, .return_, 1, (0, 0, 0, 0, []))]
def g_k33 : List (Nat × g_I) := [(0, .iconst 0, 1, (0, 0, 0, 0, [])), (1, .istore_n 1, 1, (0, 0, 0, 0, [])), (2, .aload_n 0, 1, (0, 0, 0, 0, [])), (3, .getfield 9, 3, (3, 0, 0, 0, [])), (6, .astore_n 2, 1, (0, 0, 0, 0, [])), (7, .aload_n 2, 1, (0, 0, 0, 0, [])), (8, .arraylength, 1, (0, 0, 0, 0, [])), (9, .istore_n 3, 1, (0, 0, 0, 0, [])), (10, .iconst 0, 1, (0, 0, 0, 0, [])), (11, .istore 4, 2, (0, 0, 0, 0, [])), (13, .iload 4, 2, (0, 0, 0, 0, [])), (15, .iload_n 3, 1, (0, 0, 0, 0, [])), (16, .if_icmp .ge 29, 3, (45, 0, 0, 0, [])), (19, .aload_n 2, 1, (0, 0, 0, 0, [])), (20, .iload 4, 2, (0, 0, 0, 0, [])), (22, .iaload, 1, (0, 0, 0, 0, [])), (23, .istore 5, 2, (0, 0, 0, 0, [])), (25, .iload_n 1, 1, (0, 0, 0, 0, [])), (26, .iload 5, 2, (0, 0, 0, 0, [])), (28, .iconst (-1), 1, (0, 0, -1, 0, [])), (29, .if_icmp .ne 7, 3, (36, 0, 0, 0, [])), (32, .iconst 0, 1, (0, 0, 0, 0, [])), (33, .goto 4, 3, (37, 0, 0, 0, [])), (36, .iconst 1, 1, (0, 0, 1, 0, [])), (37, .iadd, 1, (0, 0, 0, 0, [])), (38, .istore_n 1, 1, (0, 0, 0, 0, [])), (39, .iinc 4 1, 3, (0, 0, 1, 0, [])), (42, .goto (-29), 3, (13, 0, 0, 0, [])), (45, .iload_n 1, 1, (0, 0, 0, 0, [])), (46, .ireturn, 1, (0, 0, 0, 0, []))]
def g_k34 : List (Nat × g_I) := [(0, .iload_n 1, 1, (0, 0, 0, 0, [])), (1, .sipush 400, 3, (0, 0, 400, 0, [])), (4, .aload_n 0, 1, (0, 0, 0, 0, [])), (5, .getfield 13, 3, (4, 1, 0, 0, [])), (8, .isub, 1, (0, 0, 0, 0, [])), (9, .if_icmp .gt 7, 3, (16, 0, 0, 0, [])), (12, .iconst 1, 1, (0, 0, 1, 0, [])), (13, .goto 4, 3, (17, 0, 0, 0, [])), (16, .iconst 0, 1, (0, 0, 0, 0, [])), (17, .ireturn, 1, (1, 0, 0, 0, []))]
def g_k35 : List (Nat × g_I) := [(0, .iload_n 3, 1, (0, 0, 0, 0, [])), (1, .iconst 1, 1, (0, 0, 1, 0, [])), (2, .isub, 1, (0, 0, 0, 0, [])), (3, .istore 4, 2, (0, 0, 0, 0, [])), (5, .iload 4, 2, (0, 0, 0, 0, [])), (7, .ifCond .lt 50, 3, (57, 0, 0, 0, [])), (10, .aload_n 0, 1, (0, 0, 0, 0, [])), (11, .getfield 13, 3, (4, 1, 0, 0, [])), (14, .sipush 400, 3, (0, 0, 400, 0, [])), (17, .if_icmp .ge 40, 3, (57, 0, 0, 0, [])), (20, .aload_n 0, 1, (0, 0, 0, 0, [])), (21, .getfield 9, 3, (4, 0, 0, 0, [])), (24, .aload_n 0, 1, (0, 0, 0, 0, [])), (25, .getfield 13, 3, (4, 1, 0, 0, [])), (28, .lload_n 1, 1, (0, 0, 0, 0, [])), (29, .bipush 8, 2, (0, 0, 8, 0, [])), (31, .iload 4, 2, (0, 0, 0, 0, [])), (33, .imul, 1, (0, 0, 0, 0, [])), (34, .lushr, 1, (0, 0, 0, 0, [])), (35, .l2i, 1, (0, 0, 0, 0, [])), (36, .sipush 255, 3, (0, 0, 255, 0, [])), (39, .iand, 1, (0, 0, 0, 0, [])), (40, .iastore, 1, (0, 0, 0, 0, [])), (41, .aload_n 0, 1, (0, 0, 0, 0, [])), (42, .dup, 1, (0, 0, 0, 0, [])), (43, .getfield 13, 3, (4, 1, 0, 0, [])), (46, .iconst 1, 1, (0, 0, 1, 0, [])), (47, .iadd, 1, (0, 0, 0, 0, [])), (48, .putfield 13, 3, (4, 1, 0, 0, [])), (51, .iinc 4 (-1), 3, (0, 0, -1, 0, [])), (54, .goto (-49), 3, (5, 0, 0, 0, [])), (57, .aload_n 0, 1, (0, 0, 0, 0, [])), (58, .getfield 13, 3, (4, 1, 0, 0, [])), (61, .ireturn, 1, (0, 0, 0, 0, []))]
def g_k36 : List (Nat × g_I) := [(0, .aload_n 0, 1, (0, 0, 0, 0, [])), (1, .iconst 0, 1, (0, 0, 0, 0, [])), (2, .putfield 13, 3, (4, 1, 0, 0, [])), (5, .return_, 1, (0, 0, 0, 0, []))]
def g_k37 : List (Nat × g_I) := [(0, .iload_n 1, 1, (0, 0, 0, 0, [])), (1, .ifCond .lt 20, 3, (21, 0, 0, 0, [])), (4, .iload_n 1, 1, (0, 0, 0, 0, [])), (5, .aload_n 0, 1, (0, 0, 0, 0, [])), (6, .getfield 13, 3, (4, 1, 0, 0, [])), (9, .if_icmp .ge 12, 3, (21, 0, 0, 0, [])), (12, .aload_n 0, 1, (0, 0, 0, 0, [])), (13, .getfield 9, 3, (4, 0, 0, 0, [])), (16, .iload_n 1, 1, (0, 0, 0, 0, [])), (17, .iaload, 1, (0, 0, 0, 0, [])), (18, .goto 4, 3, (22, 0, 0, 0, [])), (21, .iconst (-1), 1, (0, 0, -1, 0, [])), (22, .ireturn, 1, (0, 0, 0, 0, []))]
def g_k38 : List (Nat × g_I) := [(0, .iload_n 1, 1, (0, 0, 0, 0, [])), (1, .istore_n 2, 1, (0, 0, 0, 0, [])), (2, .iload_n 2, 1, (0, 0, 0, 0, [])), (3, .aload_n 0, 1, (0, 0, 0, 0, [])), (4, .getfield 13, 3, (4, 1, 0, 0, [])), (7, .if_icmp .ge 31, 3, (38, 0, 0, 0, [])), (10, .aload_n 0, 1, (0, 0, 0, 0, [])), (11, .getfield 9, 3, (4, 0, 0, 0, [])), (14, .iload_n 2, 1, (0, 0, 0, 0, [])), (15, .iaload, 1, (0, 0, 0, 0, [])), (16, .bipush 32, 2, (0, 0, 32, 0, [])), (18, .if_icmp .eq 14, 3, (32, 0, 0, 0, [])), (21, .aload_n 0, 1, (0, 0, 0, 0, [])), (22, .getfield 9, 3, (4, 0, 0, 0, [])), (25, .iload_n 2, 1, (0, 0, 0, 0, [])), (26, .iaload, 1, (0, 0, 0, 0, [])), (27, .bipush 10, 2, (0, 0, 10, 0, [])), (29, .if_icmp .ne 9, 3, (38, 0, 0, 0, [])), (32, .iinc 2 1, 3, (0, 0, 1, 0, [])), (35, .goto (-33), 3, (2, 0, 0, 0, [])), (38, .iload_n 2, 1, (0, 0, 0, 0, [])), (39, .ireturn, 1, (0, 0, 0, 0, []))]
def g_k39 : List (Nat × g_I) := [(0, .iload_n 1, 1, (0, 0, 0, 0, [])), (1, .istore 4, 2, (0, 0, 0, 0, [])), (3, .iload 4, 2, (0, 0, 0, 0, [])), (5, .aload_n 0, 1, (0, 0, 0, 0, [])), (6, .getfield 13, 3, (4, 1, 0, 0, [])), (9, .if_icmp .ge 31, 3, (40, 0, 0, 0, [])), (12, .aload_n 0, 1, (0, 0, 0, 0, [])), (13, .getfield 9, 3, (4, 0, 0, 0, [])), (16, .iload 4, 2, (0, 0, 0, 0, [])), (18, .iaload, 1, (0, 0, 0, 0, [])), (19, .iload_n 2, 1, (0, 0, 0, 0, [])), (20, .if_icmp .lt 20, 3, (40, 0, 0, 0, [])), (23, .aload_n 0, 1, (0, 0, 0, 0, [])), (24, .getfield 9, 3, (4, 0, 0, 0, [])), (27, .iload 4, 2, (0, 0, 0, 0, [])), (29, .iaload, 1, (0, 0, 0, 0, [])), (30, .iload_n 3, 1, (0, 0, 0, 0, [])), (31, .if_icmp .gt 9, 3, (40, 0, 0, 0, [])), (34, .iinc 4 1, 3, (0, 0, 1, 0, [])), (37, .goto (-34), 3, (3, 0, 0, 0, [])), (40, .iload 4, 2, (0, 0, 0, 0, [])), (42, .ireturn, 1, (0, 0, 0, 0, []))]
def g_k40 : List (Nat × g_I) := [(0, .iconst 0, 1, (0, 0, 0, 0, [])), (1, .istore_n 3, 1, (0, 0, 0, 0, [])), (2, .iload_n 1, 1, (0, 0, 0, 0, [])), (3, .istore 4, 2, (0, 0, 0, 0, [])), (5, .iload 4, 2, (0, 0, 0, 0, [])), (7, .iload_n 2, 1, (0, 0, 0, 0, [])), (8, .if_icmp .ge 34, 3, (42, 0, 0, 0, [])), (11, .iload 4, 2, (0, 0, 0, 0, [])), (13, .aload_n 0, 1, (0, 0, 0, 0, [])), (14, .getfield 13, 3, (4, 1, 0, 0, [])), (17, .if_icmp .ge 25, 3, (42, 0, 0, 0, [])), (20, .bipush 10, 2, (0, 0, 10, 0, [])), (22, .iload_n 3, 1, (0, 0, 0, 0, [])), (23, .imul, 1, (0, 0, 0, 0, [])), (24, .aload_n 0, 1, (0, 0, 0, 0, [])), (25, .getfield 9, 3, (4, 0, 0, 0, [])), (28, .iload 4, 2, (0, 0, 0, 0, [])), (30, .iaload, 1, (0, 0, 0, 0, [])), (31, .iadd, 1, (0, 0, 0, 0, [])), (32, .bipush 48, 2, (0, 0, 48, 0, [])), (34, .isub, 1, (0, 0, 0, 0, [])), (35, .istore_n 3, 1, (0, 0, 0, 0, [])), (36, .iinc 4 1, 3, (0, 0, 1, 0, [])), (39, .goto (-34), 3, (5, 0, 0, 0, [])), (42, .iload_n 3, 1, (0, 0, 0, 0, [])), (43, .ireturn, 1, (0, 0, 0, 0, []))]
def g_k41 : List (Nat × g_I) := [(0, .iload_n 3, 1, (0, 0, 0, 0, [])), (1, .iload_n 2, 1, (0, 0, 0, 0, [])), (2, .isub, 1, (0, 0, 0, 0, [])), (3, .aload_n 1, 1, (0, 0, 0, 0, [])), (4, .invokevirtual 17, 3, (186, 0, 0, 0, [])), (7, .if_icmp .eq 5, 3, (12, 0, 0, 0, [])), (10, .iconst 0, 1, (0, 0, 0, 0, [])), (11, .ireturn, 1, (1, 0, 0, 0, [])), (12, .iconst 0, 1, (0, 0, 0, 0, [])), (13, .istore 4, 2, (0, 0, 0, 0, [])), (15, .iload 4, 2, (0, 0, 0, 0, [])), (17, .aload_n 1, 1, (0, 0, 0, 0, [])), (18, .invokevirtual 17, 3, (186, 0, 0, 0, [])), (21, .if_icmp .ge 28, 3, (49, 0, 0, 0, [])), (24, .aload_n 0, 1, (0, 0, 0, 0, [])), (25, .iload_n 2, 1, (0, 0, 0, 0, [])), (26, .iload 4, 2, (0, 0, 0, 0, [])), (28, .iadd, 1, (0, 0, 0, 0, [])), (29, .invokevirtual 22, 3, (37, 1, 0, 0, [])), (32, .aload_n 1, 1, (0, 0, 0, 0, [])), (33, .iload 4, 2, (0, 0, 0, 0, [])), (35, .invokevirtual 26, 3, (187, 1, 0, 0, [])), (38, .if_icmp .eq 5, 3, (43, 0, 0, 0, [])), (41, .iconst 0, 1, (0, 0, 0, 0, [])), (42, .ireturn, 1, (1, 0, 0, 0, [])), (43, .iinc 4 1, 3, (0, 0, 1, 0, [])), (46, .goto (-31), 3, (15, 0, 0, 0, [])), (49, .iconst 1, 1, (0, 0, 1, 0, [])), (50, .ireturn, 1, (1, 0, 0, 0, []))]
def g_k42 : List (Nat × g_I) := [(0, .aload_n 0, 1, (0, 0, 0, 0, [])), (1, .iconst 0, 1, (0, 0, 0, 0, [])), (2, .putfield 9, 3, (5, 0, 0, 0, [])), (5, .aload_n 0, 1, (0, 0, 0, 0, [])), (6, .iconst 0, 1, (0, 0, 0, 0, [])), (7, .putfield 25, 3, (5, 4, 0, 0, [])), (10, .aload_n 0, 1, (0, 0, 0, 0, [])), (11, .iconst 0, 1, (0, 0, 0, 0, [])), (12, .iconst 0, 1, (0, 0, 0, 0, [])), (13, .invokevirtual 56, 3, (48, 2, 0, 0, [])), (16, .aload_n 0, 1, (0, 0, 0, 0, [])), (17, .iconst 0, 1, (0, 0, 0, 0, [])), (18, .putfield 34, 3, (5, 7, 0, 0, [])), (21, .aload_n 0, 1, (0, 0, 0, 0, [])), (22, .iconst 0, 1, (0, 0, 0, 0, [])), (23, .putfield 37, 3, (5, 8, 0, 0, [])), (26, .aload_n 0, 1, (0, 0, 0, 0, [])), (27, .getfield 40, 3, (5, 9, 0, 0, [])), (30, .iconst 0, 1, (0, 0, 0, 0, [])), (31, .invokestatic 60, 3, (192, 2, 0, 0, [])), (34, .aload_n 0, 1, (0, 0, 0, 0, [])), (35, .invokevirtual 66, 3, (49, 0, 0, 0, [])), (38, .return_, 1, (0, 0, 0, 0, []))]
def g_k43 : List (Nat × g_I) := [(0, .aload_n 0, 1, (0, 0, 0, 0, [])), (1, .aload_n 1, 1, (0, 0, 0, 0, [])), (2, .getfield 9, 3, (5, 0, 0, 0, [])), (5, .putfield 9, 3, (5, 0, 0, 0, [])), (8, .aload_n 0, 1, (0, 0, 0, 0, [])), (9, .aload_n 1, 1, (0, 0, 0, 0, [])), (10, .getfield 15, 3, (5, 1, 0, 0, [])), (13, .putfield 15, 3, (5, 1, 0, 0, [])), (16, .aload_n 0, 1, (0, 0, 0, 0, [])), (17, .aload_n 1, 1, (0, 0, 0, 0, [])), (18, .getfield 19, 3, (5, 2, 0, 0, [])), (21, .putfield 19, 3, (5, 2, 0, 0, [])), (24, .aload_n 0, 1, (0, 0, 0, 0, [])), (25, .aload_n 1, 1, (0, 0, 0, 0, [])), (26, .getfield 22, 3, (5, 3, 0, 0, [])), (29, .putfield 22, 3, (5, 3, 0, 0, [])), (32, .aload_n 0, 1, (0, 0, 0, 0, [])), (33, .aload_n 1, 1, (0, 0, 0, 0, [])), (34, .getfield 25, 3, (5, 4, 0, 0, [])), (37, .putfield 25, 3, (5, 4, 0, 0, [])), (40, .aload_n 0, 1, (0, 0, 0, 0, [])), (41, .aload_n 1, 1, (0, 0, 0, 0, [])), (42, .getfield 28, 3, (5, 5, 0, 0, [])), (45, .putfield 28, 3, (5, 5, 0, 0, [])), (48, .aload_n 0, 1, (0, 0, 0, 0, [])), (49, .aload_n 1, 1, (0, 0, 0, 0, [])), (50, .getfield 31, 3, (5, 6, 0, 0, [])), (53, .putfield 31, 3, (5, 6, 0, 0, [])), (56, .aload_n 0, 1, (0, 0, 0, 0, [])), (57, .aload_n 1, 1, (0, 0, 0, 0, [])), (58, .getfield 34, 3, (5, 7, 0, 0, [])), (61, .putfield 34, 3, (5, 7, 0, 0, [])), (64, .aload_n 0, 1, (0, 0, 0, 0, [])), (65, .aload_n 1, 1, (0, 0, 0, 0, [])), (66, .getfield 37, 3, (5, 8, 0, 0, [])), (69, .putfield 37, 3, (5, 8, 0, 0, [])), (72, .aload_n 1, 1, (0, 0, 0, 0, [])), (73, .getfield 40, 3, (5, 9, 0, 0, [])), (76, .iconst 0, 1, (0, 0, 0, 0, [])), (77, .aload_n 0, 1, (0, 0, 0, 0, [])), (78, .getfield 40, 3, (5, 9, 0, 0, [])), (81, .iconst 0, 1, (0, 0, 0, 0, [])), (82, .bipush 81, 2, (0, 0, 81, 0, [])), (84, .invokestatic 69, 3, (0, 5, 0, 0, [1])), (87, .aload_n 1, 1, (0, 0, 0, 0, [])), (88, .getfield 44, 3, (5, 10, 0, 0, [])), (91, .iconst 0, 1, (0, 0, 0, 0, [])), (92, .aload_n 0, 1, (0, 0, 0, 0, [])), (93, .getfield 44, 3, (5, 10, 0, 0, [])), (96, .iconst 0, 1, (0, 0, 0, 0, [])), (97, .bipush 73, 2, (0, 0, 73, 0, [])), (99, .invokestatic 69, 3, (0, 5, 0, 0, [1])), (102, .aload_n 1, 1, (0, 0, 0, 0, [])), (103, .getfield 47, 3, (5, 11, 0, 0, [])), (106, .iconst 0, 1, (0, 0, 0, 0, [])), (107, .aload_n 0, 1, (0, 0, 0, 0, [])), (108, .getfield 47, 3, (5, 11, 0, 0, [])), (111, .iconst 0, 1, (0, 0, 0, 0, [])), (112, .bipush 8, 2, (0, 0, 8, 0, [])), (114, .invokestatic 69, 3, (0, 5, 0, 0, [1])), (117, .aload_n 1, 1, (0, 0, 0, 0, [])), (118, .getfield 50, 3, (5, 12, 0, 0, [])), (121, .iconst 0, 1, (0, 0, 0, 0, [])), (122, .aload_n 0, 1, (0, 0, 0, 0, [])), (123, .getfield 50, 3, (5, 12, 0, 0, [])), (126, .iconst 0, 1, (0, 0, 0, 0, [])), (127, .bipush 8, 2, (0, 0, 8, 0, [])), (129, .invokestatic 69, 3, (0, 5, 0, 0, [1])), (132, .aload_n 1, 1, (0, 0, 0, 0, [])), (133, .getfield 53, 3, (5, 13, 0, 0, [])), (136, .iconst 0, 1, (0, 0, 0, 0, [])), (137, .aload_n 0, 1, (0, 0, 0, 0, [])), (138, .getfield 53, 3, (5, 13, 0, 0, [])), (141, .iconst 0, 1, (0, 0, 0, 0, [])), (142, .bipush 8, 2, (0, 0, 8, 0, [])), (144, .invokestatic 69, 3, (0, 5, 0, 0, [1])), (147, .return_, 1, (0, 0, 0, 0, []))]
def g_k44 : List (Nat × g_I) := [(0, .iload_n 1, 1, (0, 0, 0, 0, [])), (1, .iload_n 2, 1, (0, 0, 0, 0, [])), (2, .invokestatic 75, 3, (106, 2, 0, 0, [])), (5, .istore 4, 2, (0, 0, 0, 0, [])), (7, .iload 4, 2, (0, 0, 0, 0, [])), (9, .ldc 79, 2, (0, 0, -1000000, 0, [])), (11, .if_icmp .ne 4, 3, (15, 0, 0, 0, [])), (14, .return_, 1, (0, 0, 0, 0, [])), (15, .aload_n 0, 1, (0, 0, 0, 0, [])), (16, .iconst 1, 1, (0, 0, 1, 0, [])), (17, .putfield 9, 3, (5, 0, 0, 0, [])), (20, .aload_n 0, 1, (0, 0, 0, 0, [])), (21, .iload_n 1, 1, (0, 0, 0, 0, [])), (22, .putfield 15, 3, (5, 1, 0, 0, [])), (25, .aload_n 0, 1, (0, 0, 0, 0, [])), (26, .iload_n 2, 1, (0, 0, 0, 0, [])), (27, .putfield 19, 3, (5, 2, 0, 0, [])), (30, .aload_n 0, 1, (0, 0, 0, 0, [])), (31, .iload_n 3, 1, (0, 0, 0, 0, [])), (32, .putfield 22, 3, (5, 3, 0, 0, [])), (35, .aload_n 0, 1, (0, 0, 0, 0, [])), (36, .iconst 1, 1, (0, 0, 1, 0, [])), (37, .putfield 25, 3, (5, 4, 0, 0, [])), (40, .aload_n 0, 1, (0, 0, 0, 0, [])), (41, .getfield 40, 3, (5, 9, 0, 0, [])), (44, .iload 4, 2, (0, 0, 0, 0, [])), (46, .iconst 1, 1, (0, 0, 1, 0, [])), (47, .iastore, 1, (0, 0, 0, 0, [])), (48, .return_, 1, (0, 0, 0, 0, []))]
def g_k45 : List (Nat × g_I) := [(0, .aload_n 0, 1, (0, 0, 0, 0, [])), (1, .dup, 1, (0, 0, 0, 0, [])), (2, .getfield 34, 3, (5, 7, 0, 0, [])), (5, .aload_n 0, 1, (0, 0, 0, 0, [])), (6, .getfield 40, 3, (5, 9, 0, 0, [])), (9, .iload_n 1, 1, (0, 0, 0, 0, [])), (10, .iaload, 1, (0, 0, 0, 0, [])), (11, .iconst 2, 1, (0, 0, 2, 0, [])), (12, .if_icmp .ne 7, 3, (19, 0, 0, 0, [])), (15, .iconst 0, 1, (0, 0, 0, 0, [])), (16, .goto 4, 3, (20, 0, 0, 0, [])), (19, .iconst 1, 1, (0, 0, 1, 0, [])), (20, .iadd, 1, (0, 0, 0, 0, [])), (21, .putfield 34, 3, (5, 7, 0, 0, [])), (24, .aload_n 0, 1, (0, 0, 0, 0, [])), (25, .getfield 40, 3, (5, 9, 0, 0, [])), (28, .iload_n 1, 1, (0, 0, 0, 0, [])), (29, .iconst 2, 1, (0, 0, 2, 0, [])), (30, .iastore, 1, (0, 0, 0, 0, [])), (31, .return_, 1, (0, 0, 0, 0, []))]
def g_k46 : List (Nat × g_I) := [(0, .aload_n 0, 1, (0, 0, 0, 0, [])), (1, .getfield 37, 3, (5, 8, 0, 0, [])), (4, .bipush 8, 2, (0, 0, 8, 0, [])), (6, .if_icmp .lt 4, 3, (10, 0, 0, 0, [])), (9, .return_, 1, (0, 0, 0, 0, [])), (10, .aload_n 0, 1, (0, 0, 0, 0, [])), (11, .getfield 47, 3, (5, 11, 0, 0, [])), (14, .aload_n 0, 1, (0, 0, 0, 0, [])), (15, .getfield 37, 3, (5, 8, 0, 0, [])), (18, .iload_n 1, 1, (0, 0, 0, 0, [])), (19, .iastore, 1, (0, 0, 0, 0, [])), (20, .aload_n 0, 1, (0, 0, 0, 0, [])), (21, .getfield 50, 3, (5, 12, 0, 0, [])), (24, .aload_n 0, 1, (0, 0, 0, 0, [])), (25, .getfield 37, 3, (5, 8, 0, 0, [])), (28, .iload_n 2, 1, (0, 0, 0, 0, [])), (29, .iastore, 1, (0, 0, 0, 0, [])), (30, .aload_n 0, 1, (0, 0, 0, 0, [])), (31, .getfield 53, 3, (5, 13, 0, 0, [])), (34, .aload_n 0, 1, (0, 0, 0, 0, [])), (35, .getfield 37, 3, (5, 8, 0, 0, [])), (38, .iload_n 3, 1, (0, 0, 0, 0, [])), (39, .iastore, 1, (0, 0, 0, 0, [])), (40, .aload_n 0, 1, (0, 0, 0, 0, [])), (41, .getfield 40, 3, (5, 9, 0, 0, [])), (44, .iload_n 2, 1, (0, 0, 0, 0, [])), (45, .iconst 3, 1, (0, 0, 3, 0, [])), (46, .iastore, 1, (0, 0, 0, 0, [])), (47, .aload_n 0, 1, (0, 0, 0, 0, [])), (48, .dup, 1, (0, 0, 0, 0, [])), (49, .getfield 37, 3, (5, 8, 0, 0, [])), (52, .iconst 1, 1, (0, 0, 1, 0, [])), (53, .iadd, 1, (0, 0, 0, 0, [])), (54, .putfield 37, 3, (5, 8, 0, 0, [])), (57, .return_, 1, (0, 0, 0, 0, []))]
def g_k47 : List (Nat × g_I) := [(0, .aload_n 0, 1, (0, 0, 0, 0, [])), (1, .getfield 37, 3, (5, 8, 0, 0, [])), (4, .ifCond .le 28, 3, (32, 0, 0, 0, [])), (7, .aload_n 0, 1, (0, 0, 0, 0, [])), (8, .dup, 1, (0, 0, 0, 0, [])), (9, .getfield 37, 3, (5, 8, 0, 0, [])), (12, .iconst 1, 1, (0, 0, 1, 0, [])), (13, .isub, 1, (0, 0, 0, 0, [])), (14, .putfield 37, 3, (5, 8, 0, 0, [])), (17, .aload_n 0, 1, (0, 0, 0, 0, [])), (18, .getfield 40, 3, (5, 9, 0, 0, [])), (21, .aload_n 0, 1, (0, 0, 0, 0, [])), (22, .getfield 50, 3, (5, 12, 0, 0, [])), (25, .aload_n 0, 1, (0, 0, 0, 0, [])), (26, .getfield 37, 3, (5, 8, 0, 0, [])), (29, .iaload, 1, (0, 0, 0, 0, [])), (30, .iconst 0, 1, (0, 0, 0, 0, [])), (31, .iastore, 1, (0, 0, 0, 0, [])), (32, .return_, 1, (0, 0, 0, 0, []))]
def g_k48 : List (Nat × g_I) := [(0, .aload_n 0, 1, (0, 0, 0, 0, [])), (1, .iload_n 1, 1, (0, 0, 0, 0, [])), (2, .putfield 28, 3, (5, 5, 0, 0, [])), (5, .aload_n 0, 1, (0, 0, 0, 0, [])), (6, .iload_n 2, 1, (0, 0, 0, 0, [])), (7, .putfield 31, 3, (5, 6, 0, 0, [])), (10, .return_, 1, (0, 0, 0, 0, []))]
def g_k49 : List (Nat × g_I) := [(0, .aload_n 0, 1, (0, 0, 0, 0, [])), (1, .getfield 44, 3, (5, 10, 0, 0, [])), (4, .iconst 0, 1, (0, 0, 0, 0, [])), (5, .invokestatic 60, 3, (192, 2, 0, 0, [])), (8, .return_, 1, (0, 0, 0, 0, []))]
def g_k50 : List (Nat × g_I) := [(0, .iload_n 1, 1, (0, 0, 0, 0, [])), (1, .i2l, 1, (0, 0, 0, 0, [])), (2, .lstore_n 3, 1, (0, 0, 0, 0, [])), (3, .iconst 0, 1, (0, 0, 0, 0, [])), (4, .istore 5, 2, (0, 0, 0, 0, [])), (6, .iload 5, 2, (0, 0, 0, 0, [])), (8, .bipush 73, 2, (0, 0, 73, 0, [])), (10, .if_icmp .ge 42, 3, (52, 0, 0, 0, [])), (13, .lload_n 3, 1, (0, 0, 0, 0, [])), (14, .ldc2_w 80, 3, (0, 0, 0, 16807, [])), (17, .lmul, 1, (0, 0, 0, 0, [])), (18, .ldc2_w 82, 3, (0, 0, 0, 2147483647, [])), (21, .lrem, 1, (0, 0, 0, 0, [])), (22, .lstore_n 3, 1, (0, 0, 0, 0, [])), (23, .aload_n 0, 1, (0, 0, 0, 0, [])), (24, .getfield 44, 3, (5, 10, 0, 0, [])), (27, .iload 5, 2, (0, 0, 0, 0, [])), (29, .lload_n 3, 1, (0, 0, 0, 0, [])), (30, .ldc2_w 84, 3, (0, 0, 0, 100, [])), (33, .lrem, 1, (0, 0, 0, 0, [])), (34, .iload_n 2, 1, (0, 0, 0, 0, [])), (35, .i2l, 1, (0, 0, 0, 0, [])), (36, .lcmp, 1, (0, 0, 0, 0, [])), (37, .ifCond .ge 7, 3, (44, 0, 0, 0, [])), (40, .iconst 1, 1, (0, 0, 1, 0, [])), (41, .goto 4, 3, (45, 0, 0, 0, [])), (44, .iconst 0, 1, (0, 0, 0, 0, [])), (45, .iastore, 1, (0, 0, 0, 0, [])), (46, .iinc 5 1, 3, (0, 0, 1, 0, [])), (49, .goto (-43), 3, (6, 0, 0, 0, [])), (52, .return_, 1, (0, 0, 0, 0, []))]
def g_k51 : List (Nat × g_I) := [(0, .iconst 0, 1, (0, 0, 0, 0, [])), (1, .istore_n 1, 1, (0, 0, 0, 0, [])), (2, .aload_n 0, 1, (0, 0, 0, 0, [])), (3, .getfield 44, 3, (5, 10, 0, 0, [])), (6, .astore_n 2, 1, (0, 0, 0, 0, [])), (7, .aload_n 2, 1, (0, 0, 0, 0, [])), (8, .arraylength, 1, (0, 0, 0, 0, [])), (9, .istore_n 3, 1, (0, 0, 0, 0, [])), (10, .iconst 0, 1, (0, 0, 0, 0, [])), (11, .istore 4, 2, (0, 0, 0, 0, [])), (13, .iload 4, 2, (0, 0, 0, 0, [])), (15, .iload_n 3, 1, (0, 0, 0, 0, [])), (16, .if_icmp .ge 20, 3, (36, 0, 0, 0, [])), (19, .aload_n 2, 1, (0, 0, 0, 0, [])), (20, .iload 4, 2, (0, 0, 0, 0, [])), (22, .iaload, 1, (0, 0, 0, 0, [])), (23, .istore 5, 2, (0, 0, 0, 0, [])), (25, .iload_n 1, 1, (0, 0, 0, 0, [])), (26, .iload 5, 2, (0, 0, 0, 0, [])), (28, .iadd, 1, (0, 0, 0, 0, [])), (29, .istore_n 1, 1, (0, 0, 0, 0, [])), (30, .iinc 4 1, 3, (0, 0, 1, 0, [])), (33, .goto (-20), 3, (13, 0, 0, 0, [])), (36, .iload_n 1, 1, (0, 0, 0, 0, [])), (37, .ireturn, 1, (0, 0, 0, 0, []))]
def g_k52 : List (Nat × g_I) := [(0, .aload_n 0, 1, (0, 0, 0, 0, [])), (1, .getfield 40, 3, (5, 9, 0, 0, [])), (4, .iload_n 1, 1, (0, 0, 0, 0, [])), (5, .iaload, 1, (0, 0, 0, 0, [])), (6, .ifCond .ne 7, 3, (13, 0, 0, 0, [])), (9, .iconst 1, 1, (0, 0, 1, 0, [])), (10, .goto 4, 3, (14, 0, 0, 0, [])), (13, .iconst 0, 1, (0, 0, 0, 0, [])), (14, .ireturn, 1, (1, 0, 0, 0, []))]
def g_k53 : List (Nat × g_I) := [(0, .aload_n 0, 1, (0, 0, 0, 0, [])), (1, .getfield 40, 3, (5, 9, 0, 0, [])), (4, .iload_n 1, 1, (0, 0, 0, 0, [])), (5, .iaload, 1, (0, 0, 0, 0, [])), (6, .iconst 1, 1, (0, 0, 1, 0, [])), (7, .if_icmp .ne 7, 3, (14, 0, 0, 0, [])), (10, .iconst 1, 1, (0, 0, 1, 0, [])), (11, .goto 4, 3, (15, 0, 0, 0, [])), (14, .iconst 0, 1, (0, 0, 0, 0, [])), (15, .ireturn, 1, (1, 0, 0, 0, []))]
def g_k54 : List (Nat × g_I) := [(0, .aload_n 0, 1, (0, 0, 0, 0, [])), (1, .getfield 40, 3, (5, 9, 0, 0, [])), (4, .iload_n 1, 1, (0, 0, 0, 0, [])), (5, .iaload, 1, (0, 0, 0, 0, [])), (6, .iconst 2, 1, (0, 0, 2, 0, [])), (7, .if_icmp .ne 7, 3, (14, 0, 0, 0, [])), (10, .iconst 1, 1, (0, 0, 1, 0, [])), (11, .goto 4, 3, (15, 0, 0, 0, [])), (14, .iconst 0, 1, (0, 0, 0, 0, [])), (15, .ireturn, 1, (1, 0, 0, 0, []))]
def g_k55 : List (Nat × g_I) := [(0, .aload_n 0, 1, (0, 0, 0, 0, [])), (1, .iload_n 1, 1, (0, 0, 0, 0, [])), (2, .invokevirtual 86, 3, (53, 1, 0, 0, [])), (5, .ifCond .ne 15, 3, (20, 0, 0, 0, [])), (8, .aload_n 0, 1, (0, 0, 0, 0, [])), (9, .iload_n 1, 1, (0, 0, 0, 0, [])), (10, .invokevirtual 90, 3, (54, 1, 0, 0, [])), (13, .ifCond .ne 7, 3, (20, 0, 0, 0, [])), (16, .iconst 1, 1, (0, 0, 1, 0, [])), (17, .goto 4, 3, (21, 0, 0, 0, [])), (20, .iconst 0, 1, (0, 0, 0, 0, [])), (21, .ireturn, 1, (1, 0, 0, 0, []))]
def g_k56 : List (Nat × g_I) := [(0, .iload_n 1, 1, (0, 0, 0, 0, [])), (1, .ifCond .lt 15, 3, (16, 0, 0, 0, [])), (4, .iload_n 1, 1, (0, 0, 0, 0, [])), (5, .aload_n 0, 1, (0, 0, 0, 0, [])), (6, .getfield 37, 3, (5, 8, 0, 0, [])), (9, .if_icmp .ge 7, 3, (16, 0, 0, 0, [])), (12, .iconst 1, 1, (0, 0, 1, 0, [])), (13, .goto 4, 3, (17, 0, 0, 0, [])), (16, .iconst 0, 1, (0, 0, 0, 0, [])), (17, .ireturn, 1, (1, 0, 0, 0, []))]
def g_k57 : List (Nat × g_I) := [(0, .iload_n 1, 1, (0, 0, 0, 0, [])), (1, .ifCond .lt 17, 3, (18, 0, 0, 0, [])), (4, .iload_n 1, 1, (0, 0, 0, 0, [])), (5, .iconst 1, 1, (0, 0, 1, 0, [])), (6, .aload_n 0, 1, (0, 0, 0, 0, [])), (7, .getfield 37, 3, (5, 8, 0, 0, [])), (10, .ishl, 1, (0, 0, 0, 0, [])), (11, .if_icmp .ge 7, 3, (18, 0, 0, 0, [])), (14, .iconst 1, 1, (0, 0, 1, 0, [])), (15, .goto 4, 3, (19, 0, 0, 0, [])), (18, .iconst 0, 1, (0, 0, 0, 0, [])), (19, .ireturn, 1, (1, 0, 0, 0, []))]
def g_k58 : List (Nat × g_I) := [(0, .iconst 0, 1, (0, 0, 0, 0, [])), (1, .istore_n 2, 1, (0, 0, 0, 0, [])), (2, .iconst 0, 1, (0, 0, 0, 0, [])), (3, .istore_n 3, 1, (0, 0, 0, 0, [])), (4, .iload_n 3, 1, (0, 0, 0, 0, [])), (5, .aload_n 0, 1, (0, 0, 0, 0, [])), (6, .getfield 37, 3, (5, 8, 0, 0, [])), (9, .if_icmp .ge 29, 3, (38, 0, 0, 0, [])), (12, .iload_n 2, 1, (0, 0, 0, 0, [])), (13, .aload_n 0, 1, (0, 0, 0, 0, [])), (14, .getfield 50, 3, (5, 12, 0, 0, [])), (17, .iload_n 3, 1, (0, 0, 0, 0, [])), (18, .iaload, 1, (0, 0, 0, 0, [])), (19, .iload_n 1, 1, (0, 0, 0, 0, [])), (20, .if_icmp .ne 9, 3, (29, 0, 0, 0, [])), (23, .iconst 1, 1, (0, 0, 1, 0, [])), (24, .iload_n 3, 1, (0, 0, 0, 0, [])), (25, .ishl, 1, (0, 0, 0, 0, [])), (26, .goto 4, 3, (30, 0, 0, 0, [])), (29, .iconst 0, 1, (0, 0, 0, 0, [])), (30, .ior, 1, (0, 0, 0, 0, [])), (31, .istore_n 2, 1, (0, 0, 0, 0, [])), (32, .iinc 3 1, 3, (0, 0, 1, 0, [])), (35, .goto (-31), 3, (4, 0, 0, 0, [])), (38, .iload_n 2, 1, (0, 0, 0, 0, [])), (39, .ireturn, 1, (0, 0, 0, 0, []))]
def g_k59 : List (Nat × g_I) := [(0, .getstatic 93, 3, (2, 0, 0, 0, [])), (3, .aload_n 0, 1, (0, 0, 0, 0, [])), (4, .getfield 47, 3, (5, 11, 0, 0, [])), (7, .iload_n 1, 1, (0, 0, 0, 0, [])), (8, .iaload, 1, (0, 0, 0, 0, [])), (9, .iaload, 1, (0, 0, 0, 0, [])), (10, .ireturn, 1, (0, 0, 0, 0, []))]
def g_k60 : List (Nat × g_I) := [(0, .aload_n 0, 1, (0, 0, 0, 0, [])), (1, .iload_n 3, 1, (0, 0, 0, 0, [])), (2, .putfield 26, 3, (6, 4, 0, 0, [])), (5, .aload_n 0, 1, (0, 0, 0, 0, [])), (6, .iload 4, 2, (0, 0, 0, 0, [])), (8, .putfield 30, 3, (6, 5, 0, 0, [])), (11, .aload_n 0, 1, (0, 0, 0, 0, [])), (12, .aload_n 2, 1, (0, 0, 0, 0, [])), (13, .aload_n 1, 1, (0, 0, 0, 0, [])), (14, .aload_n 0, 1, (0, 0, 0, 0, [])), (15, .getfield 30, 3, (6, 5, 0, 0, [])), (18, .invokevirtual 36, 3, (7, 2, 0, 0, [])), (21, .aload_n 1, 1, (0, 0, 0, 0, [])), (22, .aload_n 0, 1, (0, 0, 0, 0, [])), (23, .getfield 26, 3, (6, 4, 0, 0, [])), (26, .invokevirtual 42, 3, (58, 1, 0, 0, [])), (29, .iand, 1, (0, 0, 0, 0, [])), (30, .putfield 33, 3, (6, 6, 0, 0, [])), (33, .return_, 1, (0, 0, 0, 0, []))]
def g_k61 : List (Nat × g_I) := [(0, .aload_n 1, 1, (0, 0, 0, 0, [])), (1, .aload_n 0, 1, (0, 0, 0, 0, [])), (2, .getfield 26, 3, (6, 4, 0, 0, [])), (5, .iload_n 3, 1, (0, 0, 0, 0, [])), (6, .invokestatic 48, 3, (68, 3, 0, 0, [])), (9, .istore 4, 2, (0, 0, 0, 0, [])), (11, .iload 4, 2, (0, 0, 0, 0, [])), (13, .ldc 52, 2, (0, 0, -1000000, 0, [])), (15, .if_icmp .eq 12, 3, (27, 0, 0, 0, [])), (18, .aload_n 0, 1, (0, 0, 0, 0, [])), (19, .getfield 30, 3, (6, 5, 0, 0, [])), (22, .bipush 72, 2, (0, 0, 72, 0, [])), (24, .if_icmp .lt 5, 3, (29, 0, 0, 0, [])), (27, .iconst 0, 1, (0, 0, 0, 0, [])), (28, .ireturn, 1, (1, 0, 0, 0, [])), (29, .aload_n 0, 1, (0, 0, 0, 0, [])), (30, .iload 4, 2, (0, 0, 0, 0, [])), (32, .putfield 26, 3, (6, 4, 0, 0, [])), (35, .aload_n 0, 1, (0, 0, 0, 0, [])), (36, .dup, 1, (0, 0, 0, 0, [])), (37, .getfield 30, 3, (6, 5, 0, 0, [])), (40, .iconst 1, 1, (0, 0, 1, 0, [])), (41, .iadd, 1, (0, 0, 0, 0, [])), (42, .putfield 30, 3, (6, 5, 0, 0, [])), (45, .aload_n 0, 1, (0, 0, 0, 0, [])), (46, .dup, 1, (0, 0, 0, 0, [])), (47, .getfield 33, 3, (6, 6, 0, 0, [])), (50, .aload_n 2, 1, (0, 0, 0, 0, [])), (51, .aload_n 1, 1, (0, 0, 0, 0, [])), (52, .aload_n 0, 1, (0, 0, 0, 0, [])), (53, .getfield 30, 3, (6, 5, 0, 0, [])), (56, .invokevirtual 36, 3, (7, 2, 0, 0, [])), (59, .aload_n 1, 1, (0, 0, 0, 0, [])), (60, .aload_n 0, 1, (0, 0, 0, 0, [])), (61, .getfield 26, 3, (6, 4, 0, 0, [])), (64, .invokevirtual 42, 3, (58, 1, 0, 0, [])), (67, .iand, 1, (0, 0, 0, 0, [])), (68, .ior, 1, (0, 0, 0, 0, [])), (69, .putfield 33, 3, (6, 6, 0, 0, [])), (72, .iconst 1, 1, (0, 0, 1, 0, [])), (73, .ireturn, 1, (1, 0, 0, 0, []))]
def g_k62 : List (Nat × g_I) := [(0, .aload_n 0, 1, (0, 0, 0, 0, [])), (1, .aload_n 1, 1, (0, 0, 0, 0, [])), (2, .iload_n 3, 1, (0, 0, 0, 0, [])), (3, .aload_n 0, 1, (0, 0, 0, 0, [])), (4, .getfield 17, 3, (6, 1, 0, 0, [])), (7, .iconst 0, 1, (0, 0, 0, 0, [])), (8, .aaload, 1, (0, 0, 0, 0, [])), (9, .invokevirtual 53, 3, (67, 3, 0, 0, [])), (12, .aload_n 0, 1, (0, 0, 0, 0, [])), (13, .aload_n 1, 1, (0, 0, 0, 0, [])), (14, .iload 5, 2, (0, 0, 0, 0, [])), (16, .aload_n 0, 1, (0, 0, 0, 0, [])), (17, .getfield 17, 3, (6, 1, 0, 0, [])), (20, .iconst 1, 1, (0, 0, 1, 0, [])), (21, .aaload, 1, (0, 0, 0, 0, [])), (22, .invokevirtual 53, 3, (67, 3, 0, 0, [])), (25, .aload_n 0, 1, (0, 0, 0, 0, [])), (26, .getfield 17, 3, (6, 1, 0, 0, [])), (29, .iconst 0, 1, (0, 0, 0, 0, [])), (30, .aaload, 1, (0, 0, 0, 0, [])), (31, .iload 5, 2, (0, 0, 0, 0, [])), (33, .iaload, 1, (0, 0, 0, 0, [])), (34, .iload 6, 2, (0, 0, 0, 0, [])), (36, .iload 4, 2, (0, 0, 0, 0, [])), (38, .isub, 1, (0, 0, 0, 0, [])), (39, .if_icmp .le 6, 3, (45, 0, 0, 0, [])), (42, .ldc 52, 2, (0, 0, -1000000, 0, [])), (44, .ireturn, 1, (0, 0, 0, 0, [])), (45, .iconst 0, 1, (0, 0, 0, 0, [])), (46, .istore 7, 2, (0, 0, 0, 0, [])), (48, .iconst 0, 1, (0, 0, 0, 0, [])), (49, .istore 8, 2, (0, 0, 0, 0, [])), (51, .iload 8, 2, (0, 0, 0, 0, [])), (53, .aload_n 1, 1, (0, 0, 0, 0, [])), (54, .getfield 57, 3, (5, 8, 0, 0, [])), (57, .if_icmp .ge 69, 3, (126, 0, 0, 0, [])), (60, .aload_n 1, 1, (0, 0, 0, 0, [])), (61, .getfield 60, 3, (5, 12, 0, 0, [])), (64, .iload 8, 2, (0, 0, 0, 0, [])), (66, .iaload, 1, (0, 0, 0, 0, [])), (67, .istore 9, 2, (0, 0, 0, 0, [])), (69, .iload 4, 2, (0, 0, 0, 0, [])), (71, .aload_n 0, 1, (0, 0, 0, 0, [])), (72, .getfield 17, 3, (6, 1, 0, 0, [])), (75, .iconst 0, 1, (0, 0, 0, 0, [])), (76, .aaload, 1, (0, 0, 0, 0, [])), (77, .iload 9, 2, (0, 0, 0, 0, [])), (79, .iaload, 1, (0, 0, 0, 0, [])), (80, .iadd, 1, (0, 0, 0, 0, [])), (81, .istore 10, 2, (0, 0, 0, 0, [])), (83, .iload 10, 2, (0, 0, 0, 0, [])), (85, .iload 6, 2, (0, 0, 0, 0, [])), (87, .aload_n 0, 1, (0, 0, 0, 0, [])), (88, .getfield 17, 3, (6, 1, 0, 0, [])), (91, .iconst 1, 1, (0, 0, 1, 0, [])), (92, .aaload, 1, (0, 0, 0, 0, [])), (93, .iload 9, 2, (0, 0, 0, 0, [])), (95, .iaload, 1, (0, 0, 0, 0, [])), (96, .isub, 1, (0, 0, 0, 0, [])), (97, .if_icmp .gt 23, 3, (120, 0, 0, 0, [])), (100, .iload 7, 2, (0, 0, 0, 0, [])), (102, .aload_n 2, 1, (0, 0, 0, 0, [])), (103, .iload 10, 2, (0, 0, 0, 0, [])), (105, .iaload, 1, (0, 0, 0, 0, [])), (106, .iconst 1, 1, (0, 0, 1, 0, [])), (107, .iload 8, 2, (0, 0, 0, 0, [])), (109, .ishl, 1, (0, 0, 0, 0, [])), (110, .iand, 1, (0, 0, 0, 0, [])), (111, .ior, 1, (0, 0, 0, 0, [])), (112, .istore 7, 2, (0, 0, 0, 0, [])), (114, .iinc 10 1, 3, (0, 0, 1, 0, [])), (117, .goto (-34), 3, (83, 0, 0, 0, [])), (120, .iinc 8 1, 3, (0, 0, 1, 0, [])), (123, .goto (-72), 3, (51, 0, 0, 0, [])), (126, .iload 7, 2, (0, 0, 0, 0, [])), (128, .ireturn, 1, (0, 0, 0, 0, []))]
def g_k63 : List (Nat × g_I) := [(0, .iload 5, 2, (0, 0, 0, 0, [])), (2, .ifCond .ne 6, 3, (8, 0, 0, 0, [])), (5, .iload 4, 2, (0, 0, 0, 0, [])), (7, .ireturn, 1, (0, 0, 0, 0, [])), (8, .iconst 0, 1, (0, 0, 0, 0, [])), (9, .istore 6, 2, (0, 0, 0, 0, [])), (11, .iload 6, 2, (0, 0, 0, 0, [])), (13, .aload_n 1, 1, (0, 0, 0, 0, [])), (14, .getfield 57, 3, (5, 8, 0, 0, [])), (17, .if_icmp .ge 35, 3, (52, 0, 0, 0, [])), (20, .aload_n 0, 1, (0, 0, 0, 0, [])), (21, .aload_n 1, 1, (0, 0, 0, 0, [])), (22, .aload_n 1, 1, (0, 0, 0, 0, [])), (23, .getfield 60, 3, (5, 12, 0, 0, [])), (26, .iload 6, 2, (0, 0, 0, 0, [])), (28, .iaload, 1, (0, 0, 0, 0, [])), (29, .aload_n 0, 1, (0, 0, 0, 0, [])), (30, .getfield 17, 3, (6, 1, 0, 0, [])), (33, .iload 6, 2, (0, 0, 0, 0, [])), (35, .aaload, 1, (0, 0, 0, 0, [])), (36, .invokevirtual 53, 3, (67, 3, 0, 0, [])), (39, .aload_n 0, 1, (0, 0, 0, 0, [])), (40, .aload_n 2, 1, (0, 0, 0, 0, [])), (41, .iload 6, 2, (0, 0, 0, 0, [])), (43, .invokevirtual 63, 3, (66, 2, 0, 0, [])), (46, .iinc 6 1, 3, (0, 0, 1, 0, [])), (49, .goto (-38), 3, (11, 0, 0, 0, [])), (52, .sipush 1000, 3, (0, 0, 1000, 0, [])), (55, .istore 6, 2, (0, 0, 0, 0, [])), (57, .iconst 1, 1, (0, 0, 1, 0, [])), (58, .istore 7, 2, (0, 0, 0, 0, [])), (60, .iload 7, 2, (0, 0, 0, 0, [])), (62, .iload 5, 2, (0, 0, 0, 0, [])), (64, .if_icmp .gt 107, 3, (171, 0, 0, 0, [])), (67, .iload 7, 2, (0, 0, 0, 0, [])), (69, .iload 5, 2, (0, 0, 0, 0, [])), (71, .ior, 1, (0, 0, 0, 0, [])), (72, .iload 5, 2, (0, 0, 0, 0, [])), (74, .if_icmp .eq 6, 3, (80, 0, 0, 0, [])), (77, .goto 88, 3, (165, 0, 0, 0, [])), (80, .iconst 0, 1, (0, 0, 0, 0, [])), (81, .istore 8, 2, (0, 0, 0, 0, [])), (83, .iload 8, 2, (0, 0, 0, 0, [])), (85, .aload_n 1, 1, (0, 0, 0, 0, [])), (86, .getfield 57, 3, (5, 8, 0, 0, [])), (89, .if_icmp .ge 76, 3, (165, 0, 0, 0, [])), (92, .iload 7, 2, (0, 0, 0, 0, [])), (94, .iload 8, 2, (0, 0, 0, 0, [])), (96, .ishr, 1, (0, 0, 0, 0, [])), (97, .iconst 1, 1, (0, 0, 1, 0, [])), (98, .iand, 1, (0, 0, 0, 0, [])), (99, .iconst 1, 1, (0, 0, 1, 0, [])), (100, .if_icmp .ne 18, 3, (118, 0, 0, 0, [])), (103, .aload_n 0, 1, (0, 0, 0, 0, [])), (104, .aload_n 1, 1, (0, 0, 0, 0, [])), (105, .iload 7, 2, (0, 0, 0, 0, [])), (107, .iload 8, 2, (0, 0, 0, 0, [])), (109, .iload_n 3, 1, (0, 0, 0, 0, [])), (110, .iload 4, 2, (0, 0, 0, 0, [])), (112, .invokevirtual 67, 3, (64, 5, 0, 0, [])), (115, .goto 6, 3, (121, 0, 0, 0, [])), (118, .sipush 1000, 3, (0, 0, 1000, 0, [])), (121, .istore 9, 2, (0, 0, 0, 0, [])), (123, .aload_n 0, 1, (0, 0, 0, 0, [])), (124, .getfield 23, 3, (6, 3, 0, 0, [])), (127, .iload 7, 2, (0, 0, 0, 0, [])), (129, .bipush 8, 2, (0, 0, 8, 0, [])), (131, .imul, 1, (0, 0, 0, 0, [])), (132, .iload 8, 2, (0, 0, 0, 0, [])), (134, .iadd, 1, (0, 0, 0, 0, [])), (135, .iload 9, 2, (0, 0, 0, 0, [])), (137, .iastore, 1, (0, 0, 0, 0, [])), (138, .iload 7, 2, (0, 0, 0, 0, [])), (140, .iload 5, 2, (0, 0, 0, 0, [])), (142, .if_icmp .ne 13, 3, (155, 0, 0, 0, [])), (145, .iload 6, 2, (0, 0, 0, 0, [])), (147, .iload 9, 2, (0, 0, 0, 0, [])), (149, .invokestatic 71, 3, (0, 2, 0, 0, [3])), (152, .goto 5, 3, (157, 0, 0, 0, [])), (155, .iload 6, 2, (0, 0, 0, 0, [])), (157, .istore 6, 2, (0, 0, 0, 0, [])), (159, .iinc 8 1, 3, (0, 0, 1, 0, [])), (162, .goto (-79), 3, (83, 0, 0, 0, [])), (165, .iinc 7 1, 3, (0, 0, 1, 0, [])), (168, .goto (-108), 3, (60, 0, 0, 0, [])), (171, .iload 6, 2, (0, 0, 0, 0, [])), (173, .ireturn, 1, (0, 0, 0, 0, []))]
def g_k64 : List (Nat × g_I) := [(0, .iload_n 2, 1, (0, 0, 0, 0, [])), (1, .iconst 1, 1, (0, 0, 1, 0, [])), (2, .iload_n 3, 1, (0, 0, 0, 0, [])), (3, .ishl, 1, (0, 0, 0, 0, [])), (4, .ixor, 1, (0, 0, 0, 0, [])), (5, .istore 6, 2, (0, 0, 0, 0, [])), (7, .iload 6, 2, (0, 0, 0, 0, [])), (9, .ifCond .ne 21, 3, (30, 0, 0, 0, [])), (12, .aload_n 0, 1, (0, 0, 0, 0, [])), (13, .iload_n 3, 1, (0, 0, 0, 0, [])), (14, .iload 5, 2, (0, 0, 0, 0, [])), (16, .aload_n 0, 1, (0, 0, 0, 0, [])), (17, .getfield 17, 3, (6, 1, 0, 0, [])), (20, .iload_n 3, 1, (0, 0, 0, 0, [])), (21, .aaload, 1, (0, 0, 0, 0, [])), (22, .iload 4, 2, (0, 0, 0, 0, [])), (24, .iaload, 1, (0, 0, 0, 0, [])), (25, .iadd, 1, (0, 0, 0, 0, [])), (26, .invokevirtual 77, 3, (65, 2, 0, 0, [])), (29, .ireturn, 1, (0, 0, 0, 0, [])), (30, .sipush 1000, 3, (0, 0, 1000, 0, [])), (33, .istore 7, 2, (0, 0, 0, 0, [])), (35, .iconst 0, 1, (0, 0, 0, 0, [])), (36, .istore 8, 2, (0, 0, 0, 0, [])), (38, .iload 8, 2, (0, 0, 0, 0, [])), (40, .aload_n 1, 1, (0, 0, 0, 0, [])), (41, .getfield 57, 3, (5, 8, 0, 0, [])), (44, .if_icmp .ge 64, 3, (108, 0, 0, 0, [])), (47, .iload 6, 2, (0, 0, 0, 0, [])), (49, .iload 8, 2, (0, 0, 0, 0, [])), (51, .ishr, 1, (0, 0, 0, 0, [])), (52, .iconst 1, 1, (0, 0, 1, 0, [])), (53, .iand, 1, (0, 0, 0, 0, [])), (54, .iconst 1, 1, (0, 0, 1, 0, [])), (55, .if_icmp .ne 47, 3, (102, 0, 0, 0, [])), (58, .aload_n 0, 1, (0, 0, 0, 0, [])), (59, .getfield 23, 3, (6, 3, 0, 0, [])), (62, .iload 6, 2, (0, 0, 0, 0, [])), (64, .bipush 8, 2, (0, 0, 8, 0, [])), (66, .imul, 1, (0, 0, 0, 0, [])), (67, .iload 8, 2, (0, 0, 0, 0, [])), (69, .iadd, 1, (0, 0, 0, 0, [])), (70, .iaload, 1, (0, 0, 0, 0, [])), (71, .aload_n 0, 1, (0, 0, 0, 0, [])), (72, .getfield 17, 3, (6, 1, 0, 0, [])), (75, .iload_n 3, 1, (0, 0, 0, 0, [])), (76, .aaload, 1, (0, 0, 0, 0, [])), (77, .aload_n 1, 1, (0, 0, 0, 0, [])), (78, .getfield 60, 3, (5, 12, 0, 0, [])), (81, .iload 8, 2, (0, 0, 0, 0, [])), (83, .iaload, 1, (0, 0, 0, 0, [])), (84, .iaload, 1, (0, 0, 0, 0, [])), (85, .iadd, 1, (0, 0, 0, 0, [])), (86, .istore 9, 2, (0, 0, 0, 0, [])), (88, .iload 7, 2, (0, 0, 0, 0, [])), (90, .aload_n 0, 1, (0, 0, 0, 0, [])), (91, .iload_n 3, 1, (0, 0, 0, 0, [])), (92, .iload 9, 2, (0, 0, 0, 0, [])), (94, .invokevirtual 77, 3, (65, 2, 0, 0, [])), (97, .invokestatic 71, 3, (0, 2, 0, 0, [3])), (100, .istore 7, 2, (0, 0, 0, 0, [])), (102, .iinc 8 1, 3, (0, 0, 1, 0, [])), (105, .goto (-67), 3, (38, 0, 0, 0, [])), (108, .iload 7, 2, (0, 0, 0, 0, [])), (110, .ireturn, 1, (0, 0, 0, 0, []))]
def g_k65 : List (Nat × g_I) := [(0, .iload_n 2, 1, (0, 0, 0, 0, [])), (1, .bipush 72, 2, (0, 0, 72, 0, [])), (3, .if_icmp .gt 14, 3, (17, 0, 0, 0, [])), (6, .aload_n 0, 1, (0, 0, 0, 0, [])), (7, .getfield 20, 3, (6, 2, 0, 0, [])), (10, .iload_n 1, 1, (0, 0, 0, 0, [])), (11, .aaload, 1, (0, 0, 0, 0, [])), (12, .iload_n 2, 1, (0, 0, 0, 0, [])), (13, .iaload, 1, (0, 0, 0, 0, [])), (14, .goto 6, 3, (20, 0, 0, 0, [])), (17, .sipush 1000, 3, (0, 0, 1000, 0, [])), (20, .ireturn, 1, (0, 0, 0, 0, []))]
def g_k66 : List (Nat × g_I) := [(0, .sipush 1000, 3, (0, 0, 1000, 0, [])), (3, .istore_n 3, 1, (0, 0, 0, 0, [])), (4, .bipush 72, 2, (0, 0, 72, 0, [])), (6, .istore 4, 2, (0, 0, 0, 0, [])), (8, .iload 4, 2, (0, 0, 0, 0, [])), (10, .ifCond .lt 38, 3, (48, 0, 0, 0, [])), (13, .aload_n 1, 1, (0, 0, 0, 0, [])), (14, .iload 4, 2, (0, 0, 0, 0, [])), (16, .iaload, 1, (0, 0, 0, 0, [])), (17, .iload_n 2, 1, (0, 0, 0, 0, [])), (18, .ishr, 1, (0, 0, 0, 0, [])), (19, .iconst 1, 1, (0, 0, 1, 0, [])), (20, .iand, 1, (0, 0, 0, 0, [])), (21, .iconst 1, 1, (0, 0, 1, 0, [])), (22, .if_icmp .ne 8, 3, (30, 0, 0, 0, [])), (25, .iload 4, 2, (0, 0, 0, 0, [])), (27, .goto 4, 3, (31, 0, 0, 0, [])), (30, .iload_n 3, 1, (0, 0, 0, 0, [])), (31, .istore_n 3, 1, (0, 0, 0, 0, [])), (32, .aload_n 0, 1, (0, 0, 0, 0, [])), (33, .getfield 20, 3, (6, 2, 0, 0, [])), (36, .iload_n 2, 1, (0, 0, 0, 0, [])), (37, .aaload, 1, (0, 0, 0, 0, [])), (38, .iload 4, 2, (0, 0, 0, 0, [])), (40, .iload_n 3, 1, (0, 0, 0, 0, [])), (41, .iastore, 1, (0, 0, 0, 0, [])), (42, .iinc 4 (-1), 3, (0, 0, -1, 0, [])), (45, .goto (-37), 3, (8, 0, 0, 0, [])), (48, .return_, 1, (0, 0, 0, 0, []))]
def g_k67 : List (Nat × g_I) := [(0, .aload_n 3, 1, (0, 0, 0, 0, [])), (1, .sipush 1000, 3, (0, 0, 1000, 0, [])), (4, .invokestatic 80, 3, (192, 2, 0, 0, [])), (7, .aload_n 3, 1, (0, 0, 0, 0, [])), (8, .iload_n 2, 1, (0, 0, 0, 0, [])), (9, .iconst 0, 1, (0, 0, 0, 0, [])), (10, .iastore, 1, (0, 0, 0, 0, [])), (11, .aload_n 0, 1, (0, 0, 0, 0, [])), (12, .getfield 9, 3, (6, 0, 0, 0, [])), (15, .iconst 0, 1, (0, 0, 0, 0, [])), (16, .iload_n 2, 1, (0, 0, 0, 0, [])), (17, .iastore, 1, (0, 0, 0, 0, [])), (18, .iconst 1, 1, (0, 0, 1, 0, [])), (19, .istore 4, 2, (0, 0, 0, 0, [])), (21, .iconst 0, 1, (0, 0, 0, 0, [])), (22, .istore 5, 2, (0, 0, 0, 0, [])), (24, .iload 5, 2, (0, 0, 0, 0, [])), (26, .iload 4, 2, (0, 0, 0, 0, [])), (28, .if_icmp .ge 97, 3, (125, 0, 0, 0, [])), (31, .iload 5, 2, (0, 0, 0, 0, [])), (33, .bipush 81, 2, (0, 0, 81, 0, [])), (35, .if_icmp .ge 90, 3, (125, 0, 0, 0, [])), (38, .iconst 0, 1, (0, 0, 0, 0, [])), (39, .istore 6, 2, (0, 0, 0, 0, [])), (41, .iload 6, 2, (0, 0, 0, 0, [])), (43, .iconst 4, 1, (0, 0, 4, 0, [])), (44, .if_icmp .ge 75, 3, (119, 0, 0, 0, [])), (47, .aload_n 1, 1, (0, 0, 0, 0, [])), (48, .aload_n 0, 1, (0, 0, 0, 0, [])), (49, .getfield 9, 3, (6, 0, 0, 0, [])), (52, .iload 5, 2, (0, 0, 0, 0, [])), (54, .iaload, 1, (0, 0, 0, 0, [])), (55, .iload 6, 2, (0, 0, 0, 0, [])), (57, .invokestatic 48, 3, (68, 3, 0, 0, [])), (60, .istore 7, 2, (0, 0, 0, 0, [])), (62, .iload 7, 2, (0, 0, 0, 0, [])), (64, .ldc 52, 2, (0, 0, -1000000, 0, [])), (66, .if_icmp .eq 47, 3, (113, 0, 0, 0, [])), (69, .aload_n 3, 1, (0, 0, 0, 0, [])), (70, .iload 7, 2, (0, 0, 0, 0, [])), (72, .iaload, 1, (0, 0, 0, 0, [])), (73, .sipush 1000, 3, (0, 0, 1000, 0, [])), (76, .if_icmp .ne 37, 3, (113, 0, 0, 0, [])), (79, .iload 4, 2, (0, 0, 0, 0, [])), (81, .bipush 81, 2, (0, 0, 81, 0, [])), (83, .if_icmp .ge 30, 3, (113, 0, 0, 0, [])), (86, .aload_n 3, 1, (0, 0, 0, 0, [])), (87, .iload 7, 2, (0, 0, 0, 0, [])), (89, .aload_n 3, 1, (0, 0, 0, 0, [])), (90, .aload_n 0, 1, (0, 0, 0, 0, [])), (91, .getfield 9, 3, (6, 0, 0, 0, [])), (94, .iload 5, 2, (0, 0, 0, 0, [])), (96, .iaload, 1, (0, 0, 0, 0, [])), (97, .iaload, 1, (0, 0, 0, 0, [])), (98, .iconst 1, 1, (0, 0, 1, 0, [])), (99, .iadd, 1, (0, 0, 0, 0, [])), (100, .iastore, 1, (0, 0, 0, 0, [])), (101, .aload_n 0, 1, (0, 0, 0, 0, [])), (102, .getfield 9, 3, (6, 0, 0, 0, [])), (105, .iload 4, 2, (0, 0, 0, 0, [])), (107, .iload 7, 2, (0, 0, 0, 0, [])), (109, .iastore, 1, (0, 0, 0, 0, [])), (110, .iinc 4 1, 3, (0, 0, 1, 0, [])), (113, .iinc 6 1, 3, (0, 0, 1, 0, [])), (116, .goto (-75), 3, (41, 0, 0, 0, [])), (119, .iinc 5 1, 3, (0, 0, 1, 0, [])), (122, .goto (-98), 3, (24, 0, 0, 0, [])), (125, .return_, 1, (0, 0, 0, 0, []))]
def g_k68 : List (Nat × g_I) := [(0, .iload_n 2, 1, (0, 0, 0, 0, [])), (1, .ifCond .lt 11, 3, (12, 0, 0, 0, [])), (4, .iload_n 2, 1, (0, 0, 0, 0, [])), (5, .getstatic 85, 3, (0, 0, 0, 0, [])), (8, .arraylength, 1, (0, 0, 0, 0, [])), (9, .if_icmp .lt 6, 3, (15, 0, 0, 0, [])), (12, .ldc 52, 2, (0, 0, -1000000, 0, [])), (14, .ireturn, 1, (0, 0, 0, 0, [])), (15, .iload_n 1, 1, (0, 0, 0, 0, [])), (16, .bipush 9, 2, (0, 0, 9, 0, [])), (18, .irem, 1, (0, 0, 0, 0, [])), (19, .getstatic 85, 3, (0, 0, 0, 0, [])), (22, .iload_n 2, 1, (0, 0, 0, 0, [])), (23, .iaload, 1, (0, 0, 0, 0, [])), (24, .iadd, 1, (0, 0, 0, 0, [])), (25, .iload_n 1, 1, (0, 0, 0, 0, [])), (26, .bipush 9, 2, (0, 0, 9, 0, [])), (28, .idiv, 1, (0, 0, 0, 0, [])), (29, .getstatic 88, 3, (1, 0, 0, 0, [])), (32, .iload_n 2, 1, (0, 0, 0, 0, [])), (33, .iaload, 1, (0, 0, 0, 0, [])), (34, .iadd, 1, (0, 0, 0, 0, [])), (35, .invokestatic 91, 3, (106, 2, 0, 0, [])), (38, .istore_n 3, 1, (0, 0, 0, 0, [])), (39, .iload_n 3, 1, (0, 0, 0, 0, [])), (40, .ldc 52, 2, (0, 0, -1000000, 0, [])), (42, .if_icmp .eq 15, 3, (57, 0, 0, 0, [])), (45, .aload_n 0, 1, (0, 0, 0, 0, [])), (46, .iload_n 3, 1, (0, 0, 0, 0, [])), (47, .invokevirtual 94, 3, (55, 1, 0, 0, [])), (50, .ifCond .eq 7, 3, (57, 0, 0, 0, [])), (53, .iload_n 3, 1, (0, 0, 0, 0, [])), (54, .goto 5, 3, (59, 0, 0, 0, [])), (57, .ldc 52, 2, (0, 0, -1000000, 0, [])), (59, .ireturn, 1, (0, 0, 0, 0, []))]
def g_k69 : List (Nat × g_I) := [(0, .iload_n 1, 1, (0, 0, 0, 0, [])), (1, .invokestatic 74, 3, (24, 1, 0, 0, [])), (4, .ifCond .eq 18, 3, (22, 0, 0, 0, [])), (7, .iload_n 2, 1, (0, 0, 0, 0, [])), (8, .ifCond .lt 14, 3, (22, 0, 0, 0, [])), (11, .iload_n 2, 1, (0, 0, 0, 0, [])), (12, .iconst 3, 1, (0, 0, 3, 0, [])), (13, .if_icmp .ge 9, 3, (22, 0, 0, 0, [])), (16, .iload_n 3, 1, (0, 0, 0, 0, [])), (17, .bipush 40, 2, (0, 0, 40, 0, [])), (19, .if_icmp .le 6, 3, (25, 0, 0, 0, [])), (22, .ldc 78, 2, (0, 0, -1000001, 0, [])), (24, .ireturn, 1, (0, 0, 0, 0, [])), (25, .iload_n 3, 1, (0, 0, 0, 0, [])), (26, .ifCond .ge 9, 3, (35, 0, 0, 0, [])), (29, .aload_n 0, 1, (0, 0, 0, 0, [])), (30, .iconst 4, 1, (0, 0, 4, 0, [])), (31, .invokevirtual 79, 3, (99, 1, 0, 0, [])), (34, .ireturn, 1, (0, 0, 0, 0, [])), (35, .aload_n 0, 1, (0, 0, 0, 0, [])), (36, .getfield 10, 3, (7, 0, 0, 0, [])), (39, .iload_n 1, 1, (0, 0, 0, 0, [])), (40, .iload_n 2, 1, (0, 0, 0, 0, [])), (41, .iload_n 3, 1, (0, 0, 0, 0, [])), (42, .invokevirtual 83, 3, (28, 3, 0, 0, [])), (45, .aload_n 0, 1, (0, 0, 0, 0, [])), (46, .iload_n 3, 1, (0, 0, 0, 0, [])), (47, .invokevirtual 87, 3, (100, 1, 0, 0, [])), (50, .ireturn, 1, (0, 0, 0, 0, []))]
def g_k70 : List (Nat × g_I) := [(0, .iload_n 1, 1, (0, 0, 0, 0, [])), (1, .invokestatic 74, 3, (24, 1, 0, 0, [])), (4, .ifCond .ne 6, 3, (10, 0, 0, 0, [])), (7, .ldc 78, 2, (0, 0, -1000001, 0, [])), (9, .ireturn, 1, (0, 0, 0, 0, [])), (10, .aload_n 0, 1, (0, 0, 0, 0, [])), (11, .getfield 10, 3, (7, 0, 0, 0, [])), (14, .iload_n 1, 1, (0, 0, 0, 0, [])), (15, .invokevirtual 90, 3, (25, 1, 0, 0, [])), (18, .ifCond .eq 9, 3, (27, 0, 0, 0, [])), (21, .aload_n 0, 1, (0, 0, 0, 0, [])), (22, .iconst 1, 1, (0, 0, 1, 0, [])), (23, .invokevirtual 79, 3, (99, 1, 0, 0, [])), (26, .ireturn, 1, (0, 0, 0, 0, [])), (27, .aload_n 0, 1, (0, 0, 0, 0, [])), (28, .getfield 10, 3, (7, 0, 0, 0, [])), (31, .iload_n 1, 1, (0, 0, 0, 0, [])), (32, .iload_n 2, 1, (0, 0, 0, 0, [])), (33, .iconst 1, 1, (0, 0, 1, 0, [])), (34, .invokevirtual 93, 3, (27, 3, 0, 0, [])), (37, .ifCond .ne 9, 3, (46, 0, 0, 0, [])), (40, .aload_n 0, 1, (0, 0, 0, 0, [])), (41, .iconst 2, 1, (0, 0, 2, 0, [])), (42, .invokevirtual 79, 3, (99, 1, 0, 0, [])), (45, .ireturn, 1, (0, 0, 0, 0, [])), (46, .aload_n 0, 1, (0, 0, 0, 0, [])), (47, .aload_n 0, 1, (0, 0, 0, 0, [])), (48, .getfield 10, 3, (7, 0, 0, 0, [])), (51, .iload_n 1, 1, (0, 0, 0, 0, [])), (52, .iload_n 2, 1, (0, 0, 0, 0, [])), (53, .iload_n 3, 1, (0, 0, 0, 0, [])), (54, .invokevirtual 97, 3, (30, 3, 0, 0, [])), (57, .invokevirtual 87, 3, (100, 1, 0, 0, [])), (60, .ireturn, 1, (0, 0, 0, 0, []))]
def g_k71 : List (Nat × g_I) := [(0, .iload_n 1, 1, (0, 0, 0, 0, [])), (1, .invokestatic 74, 3, (24, 1, 0, 0, [])), (4, .ifCond .eq 10, 3, (14, 0, 0, 0, [])), (7, .iload_n 3, 1, (0, 0, 0, 0, [])), (8, .invokestatic 74, 3, (24, 1, 0, 0, [])), (11, .ifCond .ne 6, 3, (17, 0, 0, 0, [])), (14, .ldc 78, 2, (0, 0, -1000001, 0, [])), (16, .ireturn, 1, (0, 0, 0, 0, [])), (17, .aload_n 0, 1, (0, 0, 0, 0, [])), (18, .getfield 10, 3, (7, 0, 0, 0, [])), (21, .iload_n 1, 1, (0, 0, 0, 0, [])), (22, .invokevirtual 90, 3, (25, 1, 0, 0, [])), (25, .ifCond .ne 14, 3, (39, 0, 0, 0, [])), (28, .aload_n 0, 1, (0, 0, 0, 0, [])), (29, .getfield 10, 3, (7, 0, 0, 0, [])), (32, .iload_n 3, 1, (0, 0, 0, 0, [])), (33, .invokevirtual 90, 3, (25, 1, 0, 0, [])), (36, .ifCond .eq 9, 3, (45, 0, 0, 0, [])), (39, .aload_n 0, 1, (0, 0, 0, 0, [])), (40, .iconst 1, 1, (0, 0, 1, 0, [])), (41, .invokevirtual 79, 3, (99, 1, 0, 0, [])), (44, .ireturn, 1, (0, 0, 0, 0, [])), (45, .aload_n 0, 1, (0, 0, 0, 0, [])), (46, .getfield 10, 3, (7, 0, 0, 0, [])), (49, .iload_n 1, 1, (0, 0, 0, 0, [])), (50, .iload_n 3, 1, (0, 0, 0, 0, [])), (51, .invokevirtual 101, 3, (26, 2, 0, 0, [])), (54, .ifCond .ne 9, 3, (63, 0, 0, 0, [])), (57, .aload_n 0, 1, (0, 0, 0, 0, [])), (58, .iconst 5, 1, (0, 0, 5, 0, [])), (59, .invokevirtual 79, 3, (99, 1, 0, 0, [])), (62, .ireturn, 1, (0, 0, 0, 0, [])), (63, .aload_n 0, 1, (0, 0, 0, 0, [])), (64, .getfield 10, 3, (7, 0, 0, 0, [])), (67, .iload_n 1, 1, (0, 0, 0, 0, [])), (68, .iload_n 2, 1, (0, 0, 0, 0, [])), (69, .iload 5, 2, (0, 0, 0, 0, [])), (71, .invokevirtual 93, 3, (27, 3, 0, 0, [])), (74, .ifCond .eq 18, 3, (92, 0, 0, 0, [])), (77, .aload_n 0, 1, (0, 0, 0, 0, [])), (78, .getfield 10, 3, (7, 0, 0, 0, [])), (81, .iload_n 3, 1, (0, 0, 0, 0, [])), (82, .iload 4, 2, (0, 0, 0, 0, [])), (84, .iload 5, 2, (0, 0, 0, 0, [])), (86, .invokevirtual 93, 3, (27, 3, 0, 0, [])), (89, .ifCond .ne 9, 3, (98, 0, 0, 0, [])), (92, .aload_n 0, 1, (0, 0, 0, 0, [])), (93, .iconst 2, 1, (0, 0, 2, 0, [])), (94, .invokevirtual 79, 3, (99, 1, 0, 0, [])), (97, .ireturn, 1, (0, 0, 0, 0, [])), (98, .aload_n 0, 1, (0, 0, 0, 0, [])), (99, .getfield 10, 3, (7, 0, 0, 0, [])), (102, .iload_n 1, 1, (0, 0, 0, 0, [])), (103, .iload_n 2, 1, (0, 0, 0, 0, [])), (104, .iload_n 3, 1, (0, 0, 0, 0, [])), (105, .iload 4, 2, (0, 0, 0, 0, [])), (107, .iload 5, 2, (0, 0, 0, 0, [])), (109, .invokevirtual 105, 3, (32, 5, 0, 0, [])), (112, .aload_n 0, 1, (0, 0, 0, 0, [])), (113, .iload 5, 2, (0, 0, 0, 0, [])), (115, .invokevirtual 87, 3, (100, 1, 0, 0, [])), (118, .ireturn, 1, (0, 0, 0, 0, []))]
def g_k72 : List (Nat × g_I) := [(0, .iload_n 1, 1, (0, 0, 0, 0, [])), (1, .invokestatic 74, 3, (24, 1, 0, 0, [])), (4, .ifCond .ne 6, 3, (10, 0, 0, 0, [])), (7, .ldc 78, 2, (0, 0, -1000001, 0, [])), (9, .ireturn, 1, (0, 0, 0, 0, [])), (10, .aload_n 0, 1, (0, 0, 0, 0, [])), (11, .getfield 10, 3, (7, 0, 0, 0, [])), (14, .iload_n 1, 1, (0, 0, 0, 0, [])), (15, .invokevirtual 90, 3, (25, 1, 0, 0, [])), (18, .ifCond .eq 9, 3, (27, 0, 0, 0, [])), (21, .aload_n 0, 1, (0, 0, 0, 0, [])), (22, .iconst 1, 1, (0, 0, 1, 0, [])), (23, .invokevirtual 79, 3, (99, 1, 0, 0, [])), (26, .ireturn, 1, (0, 0, 0, 0, [])), (27, .aload_n 0, 1, (0, 0, 0, 0, [])), (28, .aload_n 0, 1, (0, 0, 0, 0, [])), (29, .getfield 10, 3, (7, 0, 0, 0, [])), (32, .iload_n 1, 1, (0, 0, 0, 0, [])), (33, .invokevirtual 109, 3, (29, 1, 0, 0, [])), (36, .invokevirtual 87, 3, (100, 1, 0, 0, [])), (39, .ireturn, 1, (0, 0, 0, 0, []))]
def g_k73 : List (Nat × g_I) := [(0, .iload_n 3, 1, (0, 0, 0, 0, [])), (1, .iconst 1, 1, (0, 0, 1, 0, [])), (2, .if_icmp .lt 9, 3, (11, 0, 0, 0, [])), (5, .iload_n 3, 1, (0, 0, 0, 0, [])), (6, .bipush 8, 2, (0, 0, 8, 0, [])), (8, .if_icmp .le 6, 3, (14, 0, 0, 0, [])), (11, .ldc 78, 2, (0, 0, -1000001, 0, [])), (13, .ireturn, 1, (0, 0, 0, 0, [])), (14, .aload_n 0, 1, (0, 0, 0, 0, [])), (15, .getfield 19, 3, (7, 1, 0, 0, [])), (18, .iload_n 3, 1, (0, 0, 0, 0, [])), (19, .invokevirtual 112, 3, (34, 1, 0, 0, [])), (22, .ifCond .eq 15, 3, (37, 0, 0, 0, [])), (25, .aload_n 0, 1, (0, 0, 0, 0, [])), (26, .getfield 19, 3, (7, 1, 0, 0, [])), (29, .lload_n 1, 1, (0, 0, 0, 0, [])), (30, .iload_n 3, 1, (0, 0, 0, 0, [])), (31, .invokevirtual 115, 3, (35, 2, 0, 0, [])), (34, .goto 5, 3, (39, 0, 0, 0, [])), (37, .ldc 119, 2, (0, 0, -1000003, 0, [])), (39, .ireturn, 1, (0, 0, 0, 0, []))]
def g_k74 : List (Nat × g_I) := [(0, .aload_n 0, 1, (0, 0, 0, 0, [])), (1, .getfield 42, 3, (7, 5, 0, 0, [])), (4, .invokevirtual 120, 3, (13, 0, 0, 0, [])), (7, .istore_n 1, 1, (0, 0, 0, 0, [])), (8, .aload_n 0, 1, (0, 0, 0, 0, [])), (9, .getfield 19, 3, (7, 1, 0, 0, [])), (12, .invokevirtual 124, 3, (36, 0, 0, 0, [])), (15, .iload_n 1, 1, (0, 0, 0, 0, [])), (16, .ifCond .ne 25, 3, (41, 0, 0, 0, [])), (19, .aload_n 0, 1, (0, 0, 0, 0, [])), (20, .aload_n 0, 1, (0, 0, 0, 0, [])), (21, .getfield 42, 3, (7, 5, 0, 0, [])), (24, .getfield 127, 3, (2, 7, 0, 0, [])), (27, .putfield 67, 3, (7, 9, 0, 0, [])), (30, .ldc 130, 2, (0, 0, -1000100, 0, [])), (32, .aload_n 0, 1, (0, 0, 0, 0, [])), (33, .getfield 42, 3, (7, 5, 0, 0, [])), (36, .getfield 131, 3, (2, 8, 0, 0, [])), (39, .isub, 1, (0, 0, 0, 0, [])), (40, .ireturn, 1, (0, 0, 0, 0, [])), (41, .aload_n 0, 1, (0, 0, 0, 0, [])), (42, .getfield 26, 3, (7, 2, 0, 0, [])), (45, .aload_n 0, 1, (0, 0, 0, 0, [])), (46, .getfield 30, 3, (7, 3, 0, 0, [])), (49, .invokevirtual 134, 3, (43, 1, 0, 0, [])), (52, .aload_n 0, 1, (0, 0, 0, 0, [])), (53, .getfield 26, 3, (7, 2, 0, 0, [])), (56, .getfield 138, 3, (5, 8, 0, 0, [])), (59, .ireturn, 1, (0, 0, 0, 0, []))]
def g_k75 : List (Nat × g_I) := [(0, .aload_n 0, 1, (0, 0, 0, 0, [])), (1, .getfield 67, 3, (7, 9, 0, 0, [])), (4, .ireturn, 1, (0, 0, 0, 0, []))]
def g_k76 : List (Nat × g_I) := [(0, .aload_n 0, 1, (0, 0, 0, 0, [])), (1, .getfield 26, 3, (7, 2, 0, 0, [])), (4, .getfield 141, 3, (5, 0, 0, 0, [])), (7, .ifCond .ne 6, 3, (13, 0, 0, 0, [])), (10, .ldc 145, 2, (0, 0, -1000002, 0, [])), (12, .ireturn, 1, (0, 0, 0, 0, [])), (13, .iload_n 1, 1, (0, 0, 0, 0, [])), (14, .iconst 1, 1, (0, 0, 1, 0, [])), (15, .if_icmp .lt 9, 3, (24, 0, 0, 0, [])), (18, .iload_n 1, 1, (0, 0, 0, 0, [])), (19, .bipush 6, 2, (0, 0, 6, 0, [])), (21, .if_icmp .le 6, 3, (27, 0, 0, 0, [])), (24, .ldc 78, 2, (0, 0, -1000001, 0, [])), (26, .ireturn, 1, (0, 0, 0, 0, [])), (27, .aload_n 0, 1, (0, 0, 0, 0, [])), (28, .getfield 26, 3, (7, 2, 0, 0, [])), (31, .getfield 146, 3, (5, 4, 0, 0, [])), (34, .istore_n 2, 1, (0, 0, 0, 0, [])), (35, .aload_n 0, 1, (0, 0, 0, 0, [])), (36, .getfield 26, 3, (7, 2, 0, 0, [])), (39, .iload_n 1, 1, (0, 0, 0, 0, [])), (40, .putfield 146, 3, (5, 4, 0, 0, [])), (43, .iload_n 2, 1, (0, 0, 0, 0, [])), (44, .ireturn, 1, (0, 0, 0, 0, []))]
def g_k77 : List (Nat × g_I) := [(0, .aload_n 0, 1, (0, 0, 0, 0, [])), (1, .getfield 26, 3, (7, 2, 0, 0, [])), (4, .getfield 141, 3, (5, 0, 0, 0, [])), (7, .ifCond .ne 6, 3, (13, 0, 0, 0, [])), (10, .ldc 145, 2, (0, 0, -1000002, 0, [])), (12, .ireturn, 1, (0, 0, 0, 0, [])), (13, .iload_n 1, 1, (0, 0, 0, 0, [])), (14, .invokestatic 149, 3, (105, 1, 0, 0, [])), (17, .ifCond .eq 10, 3, (27, 0, 0, 0, [])), (20, .iload_n 2, 1, (0, 0, 0, 0, [])), (21, .invokestatic 149, 3, (105, 1, 0, 0, [])), (24, .ifCond .ne 6, 3, (30, 0, 0, 0, [])), (27, .ldc 78, 2, (0, 0, -1000001, 0, [])), (29, .ireturn, 1, (0, 0, 0, 0, [])), (30, .aload_n 0, 1, (0, 0, 0, 0, [])), (31, .getfield 26, 3, (7, 2, 0, 0, [])), (34, .iload_n 1, 1, (0, 0, 0, 0, [])), (35, .iload_n 2, 1, (0, 0, 0, 0, [])), (36, .invokevirtual 152, 3, (48, 2, 0, 0, [])), (39, .iconst 1, 1, (0, 0, 1, 0, [])), (40, .ireturn, 1, (0, 0, 0, 0, []))]
def g_k78 : List (Nat × g_I) := [(0, .aload_n 0, 1, (0, 0, 0, 0, [])), (1, .getfield 26, 3, (7, 2, 0, 0, [])), (4, .getfield 141, 3, (5, 0, 0, 0, [])), (7, .ifCond .ne 6, 3, (13, 0, 0, 0, [])), (10, .ldc 145, 2, (0, 0, -1000002, 0, [])), (12, .ireturn, 1, (0, 0, 0, 0, [])), (13, .iload_n 1, 1, (0, 0, 0, 0, [])), (14, .invokestatic 156, 3, (102, 1, 0, 0, [])), (17, .ifCond .eq 12, 3, (29, 0, 0, 0, [])), (20, .iload_n 2, 1, (0, 0, 0, 0, [])), (21, .ifCond .lt 8, 3, (29, 0, 0, 0, [])), (24, .iload_n 2, 1, (0, 0, 0, 0, [])), (25, .iconst 1, 1, (0, 0, 1, 0, [])), (26, .if_icmp .le 6, 3, (32, 0, 0, 0, [])), (29, .ldc 78, 2, (0, 0, -1000001, 0, [])), (31, .ireturn, 1, (0, 0, 0, 0, [])), (32, .aload_n 0, 1, (0, 0, 0, 0, [])), (33, .getfield 26, 3, (7, 2, 0, 0, [])), (36, .getfield 159, 3, (5, 10, 0, 0, [])), (39, .iload_n 1, 1, (0, 0, 0, 0, [])), (40, .iaload, 1, (0, 0, 0, 0, [])), (41, .istore_n 3, 1, (0, 0, 0, 0, [])), (42, .aload_n 0, 1, (0, 0, 0, 0, [])), (43, .getfield 26, 3, (7, 2, 0, 0, [])), (46, .getfield 159, 3, (5, 10, 0, 0, [])), (49, .iload_n 1, 1, (0, 0, 0, 0, [])), (50, .iload_n 2, 1, (0, 0, 0, 0, [])), (51, .iastore, 1, (0, 0, 0, 0, [])), (52, .iload_n 3, 1, (0, 0, 0, 0, [])), (53, .ireturn, 1, (0, 0, 0, 0, []))]
def g_k79 : List (Nat × g_I) := [(0, .aload_n 0, 1, (0, 0, 0, 0, [])), (1, .getfield 26, 3, (7, 2, 0, 0, [])), (4, .getfield 141, 3, (5, 0, 0, 0, [])), (7, .ifCond .ne 6, 3, (13, 0, 0, 0, [])), (10, .ldc 145, 2, (0, 0, -1000002, 0, [])), (12, .ireturn, 1, (0, 0, 0, 0, [])), (13, .iload_n 1, 1, (0, 0, 0, 0, [])), (14, .iconst 1, 1, (0, 0, 1, 0, [])), (15, .if_icmp .lt 19, 3, (34, 0, 0, 0, [])), (18, .iload_n 1, 1, (0, 0, 0, 0, [])), (19, .ldc 163, 2, (0, 0, 999999, 0, [])), (21, .if_icmp .gt 13, 3, (34, 0, 0, 0, [])), (24, .iload_n 2, 1, (0, 0, 0, 0, [])), (25, .ifCond .lt 9, 3, (34, 0, 0, 0, [])), (28, .iload_n 2, 1, (0, 0, 0, 0, [])), (29, .bipush 100, 2, (0, 0, 100, 0, [])), (31, .if_icmp .le 6, 3, (37, 0, 0, 0, [])), (34, .ldc 78, 2, (0, 0, -1000001, 0, [])), (36, .ireturn, 1, (0, 0, 0, 0, [])), (37, .aload_n 0, 1, (0, 0, 0, 0, [])), (38, .getfield 26, 3, (7, 2, 0, 0, [])), (41, .iload_n 1, 1, (0, 0, 0, 0, [])), (42, .iload_n 2, 1, (0, 0, 0, 0, [])), (43, .invokevirtual 164, 3, (50, 2, 0, 0, [])), (46, .aload_n 0, 1, (0, 0, 0, 0, [])), (47, .getfield 26, 3, (7, 2, 0, 0, [])), (50, .invokevirtual 167, 3, (51, 0, 0, 0, [])), (53, .ireturn, 1, (0, 0, 0, 0, []))]
def g_k80 : List (Nat × g_I) := [(0, .aload_n 0, 1, (0, 0, 0, 0, [])), (1, .getfield 26, 3, (7, 2, 0, 0, [])), (4, .getfield 141, 3, (5, 0, 0, 0, [])), (7, .ifCond .ne 6, 3, (13, 0, 0, 0, [])), (10, .ldc 145, 2, (0, 0, -1000002, 0, [])), (12, .ireturn, 1, (0, 0, 0, 0, [])), (13, .iload_n 1, 1, (0, 0, 0, 0, [])), (14, .invokestatic 171, 3, (104, 1, 0, 0, [])), (17, .ifCond .eq 31, 3, (48, 0, 0, 0, [])), (20, .iload_n 2, 1, (0, 0, 0, 0, [])), (21, .invokestatic 174, 3, (103, 1, 0, 0, [])), (24, .ifCond .eq 24, 3, (48, 0, 0, 0, [])), (27, .iload_n 3, 1, (0, 0, 0, 0, [])), (28, .ifCond .lt 20, 3, (48, 0, 0, 0, [])), (31, .iload_n 3, 1, (0, 0, 0, 0, [])), (32, .bipush 99, 2, (0, 0, 99, 0, [])), (34, .if_icmp .gt 14, 3, (48, 0, 0, 0, [])), (37, .aload_n 0, 1, (0, 0, 0, 0, [])), (38, .getfield 26, 3, (7, 2, 0, 0, [])), (41, .iload_n 2, 1, (0, 0, 0, 0, [])), (42, .invokevirtual 177, 3, (52, 1, 0, 0, [])), (45, .ifCond .ne 6, 3, (51, 0, 0, 0, [])), (48, .ldc 78, 2, (0, 0, -1000001, 0, [])), (50, .ireturn, 1, (0, 0, 0, 0, [])), (51, .aload_n 0, 1, (0, 0, 0, 0, [])), (52, .getfield 26, 3, (7, 2, 0, 0, [])), (55, .getfield 138, 3, (5, 8, 0, 0, [])), (58, .bipush 8, 2, (0, 0, 8, 0, [])), (60, .if_icmp .lt 6, 3, (66, 0, 0, 0, [])), (63, .ldc 119, 2, (0, 0, -1000003, 0, [])), (65, .ireturn, 1, (0, 0, 0, 0, [])), (66, .aload_n 0, 1, (0, 0, 0, 0, [])), (67, .getfield 26, 3, (7, 2, 0, 0, [])), (70, .iload_n 1, 1, (0, 0, 0, 0, [])), (71, .iload_n 2, 1, (0, 0, 0, 0, [])), (72, .iload_n 3, 1, (0, 0, 0, 0, [])), (73, .invokevirtual 180, 3, (46, 3, 0, 0, [])), (76, .aload_n 0, 1, (0, 0, 0, 0, [])), (77, .getfield 26, 3, (7, 2, 0, 0, [])), (80, .getfield 138, 3, (5, 8, 0, 0, [])), (83, .iconst 1, 1, (0, 0, 1, 0, [])), (84, .isub, 1, (0, 0, 0, 0, [])), (85, .ireturn, 1, (0, 0, 0, 0, []))]
def g_k81 : List (Nat × g_I) := [(0, .aload_n 0, 1, (0, 0, 0, 0, [])), (1, .getfield 26, 3, (7, 2, 0, 0, [])), (4, .getfield 138, 3, (5, 8, 0, 0, [])), (7, .iconst 1, 1, (0, 0, 1, 0, [])), (8, .if_icmp .ge 6, 3, (14, 0, 0, 0, [])), (11, .ldc 145, 2, (0, 0, -1000002, 0, [])), (13, .ireturn, 1, (0, 0, 0, 0, [])), (14, .aload_n 0, 1, (0, 0, 0, 0, [])), (15, .getfield 26, 3, (7, 2, 0, 0, [])), (18, .invokevirtual 183, 3, (47, 0, 0, 0, [])), (21, .aload_n 0, 1, (0, 0, 0, 0, [])), (22, .getfield 26, 3, (7, 2, 0, 0, [])), (25, .getfield 138, 3, (5, 8, 0, 0, [])), (28, .ireturn, 1, (0, 0, 0, 0, []))]
def g_k82 : List (Nat × g_I) := [(0, .aload_n 0, 1, (0, 0, 0, 0, [])), (1, .getfield 26, 3, (7, 2, 0, 0, [])), (4, .getfield 141, 3, (5, 0, 0, 0, [])), (7, .ifCond .ne 6, 3, (13, 0, 0, 0, [])), (10, .ldc 145, 2, (0, 0, -1000002, 0, [])), (12, .ireturn, 1, (0, 0, 0, 0, [])), (13, .iload_n 1, 1, (0, 0, 0, 0, [])), (14, .invokestatic 156, 3, (102, 1, 0, 0, [])), (17, .ifCond .eq 10, 3, (27, 0, 0, 0, [])), (20, .iload_n 2, 1, (0, 0, 0, 0, [])), (21, .invokestatic 174, 3, (103, 1, 0, 0, [])), (24, .ifCond .ne 6, 3, (30, 0, 0, 0, [])), (27, .ldc 78, 2, (0, 0, -1000001, 0, [])), (29, .ireturn, 1, (0, 0, 0, 0, [])), (30, .aload_n 0, 1, (0, 0, 0, 0, [])), (31, .getfield 49, 3, (7, 6, 0, 0, [])), (34, .aload_n 0, 1, (0, 0, 0, 0, [])), (35, .getfield 26, 3, (7, 2, 0, 0, [])), (38, .iload_n 1, 1, (0, 0, 0, 0, [])), (39, .invokevirtual 186, 3, (5, 2, 0, 0, [])), (42, .aload_n 0, 1, (0, 0, 0, 0, [])), (43, .getfield 49, 3, (7, 6, 0, 0, [])), (46, .iload_n 2, 1, (0, 0, 0, 0, [])), (47, .invokevirtual 190, 3, (6, 1, 0, 0, [])), (50, .ifCond .eq 7, 3, (57, 0, 0, 0, [])), (53, .iconst 1, 1, (0, 0, 1, 0, [])), (54, .goto 4, 3, (58, 0, 0, 0, [])), (57, .iconst 0, 1, (0, 0, 0, 0, [])), (58, .ireturn, 1, (0, 0, 0, 0, []))]
def g_k83 : List (Nat × g_I) := [(0, .aload_n 0, 1, (0, 0, 0, 0, [])), (1, .getfield 26, 3, (7, 2, 0, 0, [])), (4, .getfield 141, 3, (5, 0, 0, 0, [])), (7, .ifCond .ne 6, 3, (13, 0, 0, 0, [])), (10, .ldc 145, 2, (0, 0, -1000002, 0, [])), (12, .ireturn, 1, (0, 0, 0, 0, [])), (13, .iload_n 1, 1, (0, 0, 0, 0, [])), (14, .invokestatic 156, 3, (102, 1, 0, 0, [])), (17, .ifCond .eq 18, 3, (35, 0, 0, 0, [])), (20, .aload_n 0, 1, (0, 0, 0, 0, [])), (21, .getfield 49, 3, (7, 6, 0, 0, [])), (24, .aload_n 0, 1, (0, 0, 0, 0, [])), (25, .getfield 26, 3, (7, 2, 0, 0, [])), (28, .iload_n 1, 1, (0, 0, 0, 0, [])), (29, .invokevirtual 193, 3, (7, 2, 0, 0, [])), (32, .goto 5, 3, (37, 0, 0, 0, [])), (35, .ldc 78, 2, (0, 0, -1000001, 0, [])), (37, .ireturn, 1, (0, 0, 0, 0, []))]
def g_k84 : List (Nat × g_I) := [(0, .aload_n 0, 1, (0, 0, 0, 0, [])), (1, .getfield 26, 3, (7, 2, 0, 0, [])), (4, .iload_n 1, 1, (0, 0, 0, 0, [])), (5, .invokevirtual 197, 3, (56, 1, 0, 0, [])), (8, .ifCond .ne 6, 3, (14, 0, 0, 0, [])), (11, .ldc 78, 2, (0, 0, -1000001, 0, [])), (13, .ireturn, 1, (0, 0, 0, 0, [])), (14, .iload_n 2, 1, (0, 0, 0, 0, [])), (15, .tableswitch 105 0 4 #[33, 43, 53, 66, 89], 33, (120, 0, 0, 0, [48, 58, 68, 81, 104])), (48, .aload_n 0, 1, (0, 0, 0, 0, [])), (49, .getfield 26, 3, (7, 2, 0, 0, [])), (52, .getfield 200, 3, (5, 12, 0, 0, [])), (55, .iload_n 1, 1, (0, 0, 0, 0, [])), (56, .iaload, 1, (0, 0, 0, 0, [])), (57, .ireturn, 1, (0, 0, 0, 0, [])), (58, .aload_n 0, 1, (0, 0, 0, 0, [])), (59, .getfield 26, 3, (7, 2, 0, 0, [])), (62, .getfield 203, 3, (5, 13, 0, 0, [])), (65, .iload_n 1, 1, (0, 0, 0, 0, [])), (66, .iaload, 1, (0, 0, 0, 0, [])), (67, .ireturn, 1, (0, 0, 0, 0, [])), (68, .aload_n 0, 1, (0, 0, 0, 0, [])), (69, .getfield 49, 3, (7, 6, 0, 0, [])), (72, .aload_n 0, 1, (0, 0, 0, 0, [])), (73, .getfield 26, 3, (7, 2, 0, 0, [])), (76, .iload_n 1, 1, (0, 0, 0, 0, [])), (77, .invokevirtual 206, 3, (8, 2, 0, 0, [])), (80, .ireturn, 1, (0, 0, 0, 0, [])), (81, .aload_n 0, 1, (0, 0, 0, 0, [])), (82, .getfield 26, 3, (7, 2, 0, 0, [])), (85, .getfield 203, 3, (5, 13, 0, 0, [])), (88, .iload_n 1, 1, (0, 0, 0, 0, [])), (89, .iaload, 1, (0, 0, 0, 0, [])), (90, .aload_n 0, 1, (0, 0, 0, 0, [])), (91, .getfield 49, 3, (7, 6, 0, 0, [])), (94, .aload_n 0, 1, (0, 0, 0, 0, [])), (95, .getfield 26, 3, (7, 2, 0, 0, [])), (98, .iload_n 1, 1, (0, 0, 0, 0, [])), (99, .invokevirtual 206, 3, (8, 2, 0, 0, [])), (102, .imul, 1, (0, 0, 0, 0, [])), (103, .ireturn, 1, (0, 0, 0, 0, [])), (104, .aload_n 0, 1, (0, 0, 0, 0, [])), (105, .getfield 26, 3, (7, 2, 0, 0, [])), (108, .getfield 203, 3, (5, 13, 0, 0, [])), (111, .iload_n 1, 1, (0, 0, 0, 0, [])), (112, .iaload, 1, (0, 0, 0, 0, [])), (113, .aload_n 0, 1, (0, 0, 0, 0, [])), (114, .iload_n 1, 1, (0, 0, 0, 0, [])), (115, .invokevirtual 209, 3, (101, 1, 0, 0, [])), (118, .imul, 1, (0, 0, 0, 0, [])), (119, .ireturn, 1, (0, 0, 0, 0, [])), (120, .ldc 78, 2, (0, 0, -1000001, 0, [])), (122, .ireturn, 1, (0, 0, 0, 0, []))]
def g_k85 : List (Nat × g_I) := [(0, .aload_n 0, 1, (0, 0, 0, 0, [])), (1, .getfield 26, 3, (7, 2, 0, 0, [])), (4, .getfield 141, 3, (5, 0, 0, 0, [])), (7, .ifCond .ne 6, 3, (13, 0, 0, 0, [])), (10, .ldc 145, 2, (0, 0, -1000002, 0, [])), (12, .ireturn, 1, (0, 0, 0, 0, [])), (13, .iload_n 1, 1, (0, 0, 0, 0, [])), (14, .invokestatic 174, 3, (103, 1, 0, 0, [])), (17, .ifCond .eq 21, 3, (38, 0, 0, 0, [])), (20, .iload_n 2, 1, (0, 0, 0, 0, [])), (21, .invokestatic 156, 3, (102, 1, 0, 0, [])), (24, .ifCond .eq 14, 3, (38, 0, 0, 0, [])), (27, .aload_n 0, 1, (0, 0, 0, 0, [])), (28, .getfield 26, 3, (7, 2, 0, 0, [])), (31, .iload_n 3, 1, (0, 0, 0, 0, [])), (32, .invokevirtual 212, 3, (57, 1, 0, 0, [])), (35, .ifCond .ne 6, 3, (41, 0, 0, 0, [])), (38, .ldc 78, 2, (0, 0, -1000001, 0, [])), (40, .ireturn, 1, (0, 0, 0, 0, [])), (41, .aload_n 0, 1, (0, 0, 0, 0, [])), (42, .getfield 26, 3, (7, 2, 0, 0, [])), (45, .iload_n 1, 1, (0, 0, 0, 0, [])), (46, .invokevirtual 215, 3, (55, 1, 0, 0, [])), (49, .ifCond .ne 6, 3, (55, 0, 0, 0, [])), (52, .ldc 218, 2, (0, 0, -1000000, 0, [])), (54, .ireturn, 1, (0, 0, 0, 0, [])), (55, .aload_n 0, 1, (0, 0, 0, 0, [])), (56, .getfield 49, 3, (7, 6, 0, 0, [])), (59, .aload_n 0, 1, (0, 0, 0, 0, [])), (60, .getfield 26, 3, (7, 2, 0, 0, [])), (63, .invokevirtual 219, 3, (9, 1, 0, 0, [])), (66, .aload_n 0, 1, (0, 0, 0, 0, [])), (67, .getfield 56, 3, (7, 7, 0, 0, [])), (70, .aload_n 0, 1, (0, 0, 0, 0, [])), (71, .getfield 26, 3, (7, 2, 0, 0, [])), (74, .aload_n 0, 1, (0, 0, 0, 0, [])), (75, .getfield 49, 3, (7, 6, 0, 0, [])), (78, .getfield 222, 3, (1, 2, 0, 0, [])), (81, .iload_n 1, 1, (0, 0, 0, 0, [])), (82, .iload_n 2, 1, (0, 0, 0, 0, [])), (83, .iload_n 3, 1, (0, 0, 0, 0, [])), (84, .invokevirtual 225, 3, (63, 5, 0, 0, [])), (87, .istore 4, 2, (0, 0, 0, 0, [])), (89, .iload 4, 2, (0, 0, 0, 0, [])), (91, .bipush 72, 2, (0, 0, 72, 0, [])), (93, .if_icmp .le 8, 3, (101, 0, 0, 0, [])), (96, .ldc 218, 2, (0, 0, -1000000, 0, [])), (98, .goto 7, 3, (105, 0, 0, 0, [])), (101, .iload 4, 2, (0, 0, 0, 0, [])), (103, .iload_n 2, 1, (0, 0, 0, 0, [])), (104, .isub, 1, (0, 0, 0, 0, [])), (105, .ireturn, 1, (0, 0, 0, 0, []))]
def g_k86 : List (Nat × g_I) := [(0, .aload_n 0, 1, (0, 0, 0, 0, [])), (1, .getfield 26, 3, (7, 2, 0, 0, [])), (4, .getfield 141, 3, (5, 0, 0, 0, [])), (7, .ifCond .ne 6, 3, (13, 0, 0, 0, [])), (10, .ldc 145, 2, (0, 0, -1000002, 0, [])), (12, .ireturn, 1, (0, 0, 0, 0, [])), (13, .iload_n 1, 1, (0, 0, 0, 0, [])), (14, .invokestatic 174, 3, (103, 1, 0, 0, [])), (17, .ifCond .eq 32, 3, (49, 0, 0, 0, [])), (20, .aload_n 0, 1, (0, 0, 0, 0, [])), (21, .getfield 26, 3, (7, 2, 0, 0, [])), (24, .iload_n 1, 1, (0, 0, 0, 0, [])), (25, .invokevirtual 215, 3, (55, 1, 0, 0, [])), (28, .ifCond .eq 21, 3, (49, 0, 0, 0, [])), (31, .iload_n 2, 1, (0, 0, 0, 0, [])), (32, .invokestatic 156, 3, (102, 1, 0, 0, [])), (35, .ifCond .eq 14, 3, (49, 0, 0, 0, [])), (38, .iload 6, 2, (0, 0, 0, 0, [])), (40, .ifCond .lt 9, 3, (49, 0, 0, 0, [])), (43, .iload 6, 2, (0, 0, 0, 0, [])), (45, .iconst 1, 1, (0, 0, 1, 0, [])), (46, .if_icmp .le 6, 3, (52, 0, 0, 0, [])), (49, .ldc 78, 2, (0, 0, -1000001, 0, [])), (51, .ireturn, 1, (0, 0, 0, 0, [])), (52, .iload_n 3, 1, (0, 0, 0, 0, [])), (53, .invokestatic 74, 3, (24, 1, 0, 0, [])), (56, .ifCond .eq 24, 3, (80, 0, 0, 0, [])), (59, .iload 5, 2, (0, 0, 0, 0, [])), (61, .ifCond .lt 19, 3, (80, 0, 0, 0, [])), (64, .iload 5, 2, (0, 0, 0, 0, [])), (66, .bipush 40, 2, (0, 0, 40, 0, [])), (68, .if_icmp .gt 12, 3, (80, 0, 0, 0, [])), (71, .iload_n 2, 1, (0, 0, 0, 0, [])), (72, .iload 5, 2, (0, 0, 0, 0, [])), (74, .iadd, 1, (0, 0, 0, 0, [])), (75, .bipush 72, 2, (0, 0, 72, 0, [])), (77, .if_icmp .le 6, 3, (83, 0, 0, 0, [])), (80, .ldc 78, 2, (0, 0, -1000001, 0, [])), (82, .ireturn, 1, (0, 0, 0, 0, [])), (83, .aload_n 0, 1, (0, 0, 0, 0, [])), (84, .getfield 10, 3, (7, 0, 0, 0, [])), (87, .iload_n 3, 1, (0, 0, 0, 0, [])), (88, .invokevirtual 90, 3, (25, 1, 0, 0, [])), (91, .ifCond .eq 9, 3, (100, 0, 0, 0, [])), (94, .aload_n 0, 1, (0, 0, 0, 0, [])), (95, .iconst 1, 1, (0, 0, 1, 0, [])), (96, .invokevirtual 79, 3, (99, 1, 0, 0, [])), (99, .ireturn, 1, (0, 0, 0, 0, [])), (100, .aload_n 0, 1, (0, 0, 0, 0, [])), (101, .getfield 10, 3, (7, 0, 0, 0, [])), (104, .iload_n 3, 1, (0, 0, 0, 0, [])), (105, .iload 4, 2, (0, 0, 0, 0, [])), (107, .iload 5, 2, (0, 0, 0, 0, [])), (109, .invokevirtual 93, 3, (27, 3, 0, 0, [])), (112, .ifCond .ne 9, 3, (121, 0, 0, 0, [])), (115, .aload_n 0, 1, (0, 0, 0, 0, [])), (116, .iconst 2, 1, (0, 0, 2, 0, [])), (117, .invokevirtual 79, 3, (99, 1, 0, 0, [])), (120, .ireturn, 1, (0, 0, 0, 0, [])), (121, .aload_n 0, 1, (0, 0, 0, 0, [])), (122, .getfield 56, 3, (7, 7, 0, 0, [])), (125, .aload_n 0, 1, (0, 0, 0, 0, [])), (126, .getfield 26, 3, (7, 2, 0, 0, [])), (129, .aload_n 0, 1, (0, 0, 0, 0, [])), (130, .getfield 49, 3, (7, 6, 0, 0, [])), (133, .iload_n 1, 1, (0, 0, 0, 0, [])), (134, .iload_n 2, 1, (0, 0, 0, 0, [])), (135, .invokevirtual 229, 3, (60, 4, 0, 0, [])), (138, .iconst 0, 1, (0, 0, 0, 0, [])), (139, .istore 7, 2, (0, 0, 0, 0, [])), (141, .iconst 1, 1, (0, 0, 1, 0, [])), (142, .istore 8, 2, (0, 0, 0, 0, [])), (144, .iload 8, 2, (0, 0, 0, 0, [])), (146, .iload 5, 2, (0, 0, 0, 0, [])), (148, .if_icmp .gt 55, 3, (203, 0, 0, 0, [])), (151, .iload 7, 2, (0, 0, 0, 0, [])), (153, .ifCond .ne 50, 3, (203, 0, 0, 0, [])), (156, .aload_n 0, 1, (0, 0, 0, 0, [])), (157, .getfield 56, 3, (7, 7, 0, 0, [])), (160, .aload_n 0, 1, (0, 0, 0, 0, [])), (161, .getfield 26, 3, (7, 2, 0, 0, [])), (164, .aload_n 0, 1, (0, 0, 0, 0, [])), (165, .getfield 49, 3, (7, 6, 0, 0, [])), (168, .aload_n 0, 1, (0, 0, 0, 0, [])), (169, .getfield 10, 3, (7, 0, 0, 0, [])), (172, .iload_n 3, 1, (0, 0, 0, 0, [])), (173, .iload 4, 2, (0, 0, 0, 0, [])), (175, .iload 8, 2, (0, 0, 0, 0, [])), (177, .iadd, 1, (0, 0, 0, 0, [])), (178, .iconst 1, 1, (0, 0, 1, 0, [])), (179, .isub, 1, (0, 0, 0, 0, [])), (180, .invokevirtual 233, 3, (31, 2, 0, 0, [])), (183, .invokevirtual 237, 3, (61, 3, 0, 0, [])), (186, .ifCond .eq 7, 3, (193, 0, 0, 0, [])), (189, .iconst 0, 1, (0, 0, 0, 0, [])), (190, .goto 5, 3, (195, 0, 0, 0, [])), (193, .iload 8, 2, (0, 0, 0, 0, [])), (195, .istore 7, 2, (0, 0, 0, 0, [])), (197, .iinc 8 1, 3, (0, 0, 1, 0, [])), (200, .goto (-56), 3, (144, 0, 0, 0, [])), (203, .aload_n 0, 1, (0, 0, 0, 0, [])), (204, .iload 6, 2, (0, 0, 0, 0, [])), (206, .ifCond .ne 8, 3, (214, 0, 0, 0, [])), (209, .iload 7, 2, (0, 0, 0, 0, [])), (211, .goto 10, 3, (221, 0, 0, 0, [])), (214, .aload_n 0, 1, (0, 0, 0, 0, [])), (215, .getfield 56, 3, (7, 7, 0, 0, [])), (218, .getfield 241, 3, (6, 6, 0, 0, [])), (221, .invokevirtual 87, 3, (100, 1, 0, 0, [])), (224, .ireturn, 1, (0, 0, 0, 0, []))]
def g_k87 : List (Nat × g_I) := [(0, .aload_n 0, 1, (0, 0, 0, 0, [])), (1, .getfield 26, 3, (7, 2, 0, 0, [])), (4, .getfield 141, 3, (5, 0, 0, 0, [])), (7, .ifCond .ne 6, 3, (13, 0, 0, 0, [])), (10, .ldc 145, 2, (0, 0, -1000002, 0, [])), (12, .ireturn, 1, (0, 0, 0, 0, [])), (13, .iload_n 1, 1, (0, 0, 0, 0, [])), (14, .invokestatic 174, 3, (103, 1, 0, 0, [])), (17, .ifCond .eq 31, 3, (48, 0, 0, 0, [])), (20, .iload_n 2, 1, (0, 0, 0, 0, [])), (21, .invokestatic 156, 3, (102, 1, 0, 0, [])), (24, .ifCond .eq 24, 3, (48, 0, 0, 0, [])), (27, .iload_n 3, 1, (0, 0, 0, 0, [])), (28, .invokestatic 174, 3, (103, 1, 0, 0, [])), (31, .ifCond .eq 17, 3, (48, 0, 0, 0, [])), (34, .iload 4, 2, (0, 0, 0, 0, [])), (36, .invokestatic 156, 3, (102, 1, 0, 0, [])), (39, .ifCond .eq 9, 3, (48, 0, 0, 0, [])), (42, .iload 4, 2, (0, 0, 0, 0, [])), (44, .iload_n 2, 1, (0, 0, 0, 0, [])), (45, .if_icmp .ge 6, 3, (51, 0, 0, 0, [])), (48, .ldc 78, 2, (0, 0, -1000001, 0, [])), (50, .ireturn, 1, (0, 0, 0, 0, [])), (51, .aload_n 0, 1, (0, 0, 0, 0, [])), (52, .getfield 26, 3, (7, 2, 0, 0, [])), (55, .iload_n 1, 1, (0, 0, 0, 0, [])), (56, .invokevirtual 215, 3, (55, 1, 0, 0, [])), (59, .ifCond .eq 14, 3, (73, 0, 0, 0, [])), (62, .aload_n 0, 1, (0, 0, 0, 0, [])), (63, .getfield 26, 3, (7, 2, 0, 0, [])), (66, .iload_n 3, 1, (0, 0, 0, 0, [])), (67, .invokevirtual 215, 3, (55, 1, 0, 0, [])), (70, .ifCond .ne 6, 3, (76, 0, 0, 0, [])), (73, .ldc 218, 2, (0, 0, -1000000, 0, [])), (75, .ireturn, 1, (0, 0, 0, 0, [])), (76, .aload_n 0, 1, (0, 0, 0, 0, [])), (77, .getfield 49, 3, (7, 6, 0, 0, [])), (80, .aload_n 0, 1, (0, 0, 0, 0, [])), (81, .getfield 26, 3, (7, 2, 0, 0, [])), (84, .invokevirtual 219, 3, (9, 1, 0, 0, [])), (87, .aload_n 0, 1, (0, 0, 0, 0, [])), (88, .getfield 56, 3, (7, 7, 0, 0, [])), (91, .aload_n 0, 1, (0, 0, 0, 0, [])), (92, .getfield 26, 3, (7, 2, 0, 0, [])), (95, .aload_n 0, 1, (0, 0, 0, 0, [])), (96, .getfield 49, 3, (7, 6, 0, 0, [])), (99, .getfield 222, 3, (1, 2, 0, 0, [])), (102, .iload_n 1, 1, (0, 0, 0, 0, [])), (103, .iload_n 2, 1, (0, 0, 0, 0, [])), (104, .iload_n 3, 1, (0, 0, 0, 0, [])), (105, .iload 4, 2, (0, 0, 0, 0, [])), (107, .invokevirtual 244, 3, (62, 6, 0, 0, [])), (110, .ireturn, 1, (0, 0, 0, 0, []))]
def g_k88 : List (Nat × g_I) := [(0, .aload_n 0, 1, (0, 0, 0, 0, [])), (1, .getfield 26, 3, (7, 2, 0, 0, [])), (4, .getfield 141, 3, (5, 0, 0, 0, [])), (7, .ifCond .ne 6, 3, (13, 0, 0, 0, [])), (10, .ldc 145, 2, (0, 0, -1000002, 0, [])), (12, .ireturn, 1, (0, 0, 0, 0, [])), (13, .iload_n 1, 1, (0, 0, 0, 0, [])), (14, .invokestatic 171, 3, (104, 1, 0, 0, [])), (17, .ifCond .eq 12, 3, (29, 0, 0, 0, [])), (20, .iload_n 2, 1, (0, 0, 0, 0, [])), (21, .ifCond .lt 8, 3, (29, 0, 0, 0, [])), (24, .iload_n 2, 1, (0, 0, 0, 0, [])), (25, .iconst 1, 1, (0, 0, 1, 0, [])), (26, .if_icmp .le 6, 3, (32, 0, 0, 0, [])), (29, .ldc 78, 2, (0, 0, -1000001, 0, [])), (31, .ireturn, 1, (0, 0, 0, 0, [])), (32, .aload_n 0, 1, (0, 0, 0, 0, [])), (33, .getfield 49, 3, (7, 6, 0, 0, [])), (36, .aload_n 0, 1, (0, 0, 0, 0, [])), (37, .getfield 26, 3, (7, 2, 0, 0, [])), (40, .iload_n 1, 1, (0, 0, 0, 0, [])), (41, .invokevirtual 248, 3, (10, 2, 0, 0, [])), (44, .istore_n 3, 1, (0, 0, 0, 0, [])), (45, .iload_n 3, 1, (0, 0, 0, 0, [])), (46, .invokestatic 174, 3, (103, 1, 0, 0, [])), (49, .ifCond .ne 6, 3, (55, 0, 0, 0, [])), (52, .ldc 218, 2, (0, 0, -1000000, 0, [])), (54, .ireturn, 1, (0, 0, 0, 0, [])), (55, .iload_n 2, 1, (0, 0, 0, 0, [])), (56, .ifCond .ne 7, 3, (63, 0, 0, 0, [])), (59, .iload_n 3, 1, (0, 0, 0, 0, [])), (60, .goto 12, 3, (72, 0, 0, 0, [])), (63, .aload_n 0, 1, (0, 0, 0, 0, [])), (64, .getfield 49, 3, (7, 6, 0, 0, [])), (67, .getfield 251, 3, (1, 3, 0, 0, [])), (70, .iload_n 3, 1, (0, 0, 0, 0, [])), (71, .iaload, 1, (0, 0, 0, 0, [])), (72, .ireturn, 1, (0, 0, 0, 0, []))]
def g_k89 : List (Nat × g_I) := [(0, .aload_n 0, 1, (0, 0, 0, 0, [])), (1, .getfield 26, 3, (7, 2, 0, 0, [])), (4, .getfield 141, 3, (5, 0, 0, 0, [])), (7, .ifCond .ne 6, 3, (13, 0, 0, 0, [])), (10, .ldc 145, 2, (0, 0, -1000002, 0, [])), (12, .ireturn, 1, (0, 0, 0, 0, [])), (13, .iload_n 1, 1, (0, 0, 0, 0, [])), (14, .invokestatic 156, 3, (102, 1, 0, 0, [])), (17, .ifCond .eq 14, 3, (31, 0, 0, 0, [])), (20, .aload_n 0, 1, (0, 0, 0, 0, [])), (21, .getfield 26, 3, (7, 2, 0, 0, [])), (24, .iload_n 2, 1, (0, 0, 0, 0, [])), (25, .invokevirtual 212, 3, (57, 1, 0, 0, [])), (28, .ifCond .ne 6, 3, (34, 0, 0, 0, [])), (31, .ldc 78, 2, (0, 0, -1000001, 0, [])), (33, .ireturn, 1, (0, 0, 0, 0, [])), (34, .iconst 0, 1, (0, 0, 0, 0, [])), (35, .istore_n 3, 1, (0, 0, 0, 0, [])), (36, .aload_n 0, 1, (0, 0, 0, 0, [])), (37, .getfield 30, 3, (7, 3, 0, 0, [])), (40, .aload_n 0, 1, (0, 0, 0, 0, [])), (41, .getfield 26, 3, (7, 2, 0, 0, [])), (44, .invokevirtual 134, 3, (43, 1, 0, 0, [])), (47, .aload_n 0, 1, (0, 0, 0, 0, [])), (48, .getfield 30, 3, (7, 3, 0, 0, [])), (51, .invokevirtual 254, 3, (49, 0, 0, 0, [])), (54, .iconst 1, 1, (0, 0, 1, 0, [])), (55, .istore 4, 2, (0, 0, 0, 0, [])), (57, .iload 4, 2, (0, 0, 0, 0, [])), (59, .bipush 6, 2, (0, 0, 6, 0, [])), (61, .if_icmp .gt 41, 3, (102, 0, 0, 0, [])), (64, .aload_n 0, 1, (0, 0, 0, 0, [])), (65, .getfield 30, 3, (7, 3, 0, 0, [])), (68, .iload 4, 2, (0, 0, 0, 0, [])), (70, .putfield 146, 3, (5, 4, 0, 0, [])), (73, .aload_n 0, 1, (0, 0, 0, 0, [])), (74, .getfield 49, 3, (7, 6, 0, 0, [])), (77, .aload_n 0, 1, (0, 0, 0, 0, [])), (78, .getfield 30, 3, (7, 3, 0, 0, [])), (81, .iload_n 1, 1, (0, 0, 0, 0, [])), (82, .invokevirtual 193, 3, (7, 2, 0, 0, [])), (85, .iload_n 2, 1, (0, 0, 0, 0, [])), (86, .if_icmp .ne 10, 3, (96, 0, 0, 0, [])), (89, .iload_n 3, 1, (0, 0, 0, 0, [])), (90, .iconst 1, 1, (0, 0, 1, 0, [])), (91, .iload 4, 2, (0, 0, 0, 0, [])), (93, .ishl, 1, (0, 0, 0, 0, [])), (94, .ior, 1, (0, 0, 0, 0, [])), (95, .istore_n 3, 1, (0, 0, 0, 0, [])), (96, .iinc 4 1, 3, (0, 0, 1, 0, [])), (99, .goto (-42), 3, (57, 0, 0, 0, [])), (102, .iload_n 3, 1, (0, 0, 0, 0, [])), (103, .ireturn, 1, (0, 0, 0, 0, []))]
def g_k90 : List (Nat × g_I) := [(0, .aload_n 0, 1, (0, 0, 0, 0, [])), (1, .getfield 26, 3, (7, 2, 0, 0, [])), (4, .iload_n 1, 1, (0, 0, 0, 0, [])), (5, .invokevirtual 197, 3, (56, 1, 0, 0, [])), (8, .ifCond .eq 17, 3, (25, 0, 0, 0, [])), (11, .iload_n 2, 1, (0, 0, 0, 0, [])), (12, .invokestatic 149, 3, (105, 1, 0, 0, [])), (15, .ifCond .eq 10, 3, (25, 0, 0, 0, [])), (18, .iload_n 3, 1, (0, 0, 0, 0, [])), (19, .invokestatic 149, 3, (105, 1, 0, 0, [])), (22, .ifCond .ne 6, 3, (28, 0, 0, 0, [])), (25, .ldc 78, 2, (0, 0, -1000001, 0, [])), (27, .ireturn, 1, (0, 0, 0, 0, [])), (28, .aload_n 0, 1, (0, 0, 0, 0, [])), (29, .getfield 30, 3, (7, 3, 0, 0, [])), (32, .aload_n 0, 1, (0, 0, 0, 0, [])), (33, .getfield 26, 3, (7, 2, 0, 0, [])), (36, .invokevirtual 134, 3, (43, 1, 0, 0, [])), (39, .aload_n 0, 1, (0, 0, 0, 0, [])), (40, .getfield 30, 3, (7, 3, 0, 0, [])), (43, .iload_n 2, 1, (0, 0, 0, 0, [])), (44, .iload_n 3, 1, (0, 0, 0, 0, [])), (45, .invokevirtual 152, 3, (48, 2, 0, 0, [])), (48, .aload_n 0, 1, (0, 0, 0, 0, [])), (49, .getfield 49, 3, (7, 6, 0, 0, [])), (52, .aload_n 0, 1, (0, 0, 0, 0, [])), (53, .getfield 30, 3, (7, 3, 0, 0, [])), (56, .iload_n 1, 1, (0, 0, 0, 0, [])), (57, .invokevirtual 206, 3, (8, 2, 0, 0, [])), (60, .aload_n 0, 1, (0, 0, 0, 0, [])), (61, .getfield 49, 3, (7, 6, 0, 0, [])), (64, .aload_n 0, 1, (0, 0, 0, 0, [])), (65, .getfield 26, 3, (7, 2, 0, 0, [])), (68, .iload_n 1, 1, (0, 0, 0, 0, [])), (69, .invokevirtual 206, 3, (8, 2, 0, 0, [])), (72, .isub, 1, (0, 0, 0, 0, [])), (73, .ireturn, 1, (0, 0, 0, 0, []))]
def g_k91 : List (Nat × g_I) := [(0, .iload_n 1, 1, (0, 0, 0, 0, [])), (1, .ifCond .lt 8, 3, (9, 0, 0, 0, [])), (4, .iload_n 1, 1, (0, 0, 0, 0, [])), (5, .iconst 2, 1, (0, 0, 2, 0, [])), (6, .if_icmp .lt 6, 3, (12, 0, 0, 0, [])), (9, .ldc 78, 2, (0, 0, -1000001, 0, [])), (11, .ireturn, 1, (0, 0, 0, 0, [])), (12, .aload_n 0, 1, (0, 0, 0, 0, [])), (13, .getfield 26, 3, (7, 2, 0, 0, [])), (16, .getfield 141, 3, (5, 0, 0, 0, [])), (19, .ifCond .ne 6, 3, (25, 0, 0, 0, [])), (22, .ldc 145, 2, (0, 0, -1000002, 0, [])), (24, .ireturn, 1, (0, 0, 0, 0, [])), (25, .aload_n 0, 1, (0, 0, 0, 0, [])), (26, .getfield 33, 3, (7, 4, 0, 0, [])), (29, .iload_n 1, 1, (0, 0, 0, 0, [])), (30, .aaload, 1, (0, 0, 0, 0, [])), (31, .aload_n 0, 1, (0, 0, 0, 0, [])), (32, .getfield 26, 3, (7, 2, 0, 0, [])), (35, .invokevirtual 134, 3, (43, 1, 0, 0, [])), (38, .iconst 1, 1, (0, 0, 1, 0, [])), (39, .ireturn, 1, (0, 0, 0, 0, []))]
def g_k92 : List (Nat × g_I) := [(0, .iload_n 1, 1, (0, 0, 0, 0, [])), (1, .ifCond .lt 8, 3, (9, 0, 0, 0, [])), (4, .iload_n 1, 1, (0, 0, 0, 0, [])), (5, .iconst 2, 1, (0, 0, 2, 0, [])), (6, .if_icmp .lt 6, 3, (12, 0, 0, 0, [])), (9, .ldc 78, 2, (0, 0, -1000001, 0, [])), (11, .ireturn, 1, (0, 0, 0, 0, [])), (12, .aload_n 0, 1, (0, 0, 0, 0, [])), (13, .getfield 33, 3, (7, 4, 0, 0, [])), (16, .iload_n 1, 1, (0, 0, 0, 0, [])), (17, .aaload, 1, (0, 0, 0, 0, [])), (18, .getfield 141, 3, (5, 0, 0, 0, [])), (21, .ifCond .ne 6, 3, (27, 0, 0, 0, [])), (24, .ldc 145, 2, (0, 0, -1000002, 0, [])), (26, .ireturn, 1, (0, 0, 0, 0, [])), (27, .aload_n 0, 1, (0, 0, 0, 0, [])), (28, .getfield 26, 3, (7, 2, 0, 0, [])), (31, .aload_n 0, 1, (0, 0, 0, 0, [])), (32, .getfield 33, 3, (7, 4, 0, 0, [])), (35, .iload_n 1, 1, (0, 0, 0, 0, [])), (36, .aaload, 1, (0, 0, 0, 0, [])), (37, .invokevirtual 134, 3, (43, 1, 0, 0, [])), (40, .iconst 1, 1, (0, 0, 1, 0, [])), (41, .ireturn, 1, (0, 0, 0, 0, []))]
def g_k93 : List (Nat × g_I) := [(0, .aload_n 0, 1, (0, 0, 0, 0, [])), (1, .getfield 26, 3, (7, 2, 0, 0, [])), (4, .iload_n 1, 1, (0, 0, 0, 0, [])), (5, .invokevirtual 197, 3, (56, 1, 0, 0, [])), (8, .ifCond .eq 14, 3, (22, 0, 0, 0, [])), (11, .aload_n 0, 1, (0, 0, 0, 0, [])), (12, .getfield 26, 3, (7, 2, 0, 0, [])), (15, .iload_n 1, 1, (0, 0, 0, 0, [])), (16, .invokevirtual 257, 3, (59, 1, 0, 0, [])), (19, .goto 5, 3, (24, 0, 0, 0, [])), (22, .ldc 78, 2, (0, 0, -1000001, 0, [])), (24, .ireturn, 1, (0, 0, 0, 0, []))]
def g_k94 : List (Nat × g_I) := [(0, .aload_n 0, 1, (0, 0, 0, 0, [])), (1, .getfield 26, 3, (7, 2, 0, 0, [])), (4, .iload_n 1, 1, (0, 0, 0, 0, [])), (5, .invokevirtual 197, 3, (56, 1, 0, 0, [])), (8, .ifCond .eq 13, 3, (21, 0, 0, 0, [])), (11, .iload_n 2, 1, (0, 0, 0, 0, [])), (12, .ifCond .lt 9, 3, (21, 0, 0, 0, [])), (15, .iload_n 2, 1, (0, 0, 0, 0, [])), (16, .bipush 6, 2, (0, 0, 6, 0, [])), (18, .if_icmp .lt 6, 3, (24, 0, 0, 0, [])), (21, .ldc 78, 2, (0, 0, -1000001, 0, [])), (23, .ireturn, 1, (0, 0, 0, 0, [])), (24, .aload_n 0, 1, (0, 0, 0, 0, [])), (25, .getfield 26, 3, (7, 2, 0, 0, [])), (28, .iload_n 1, 1, (0, 0, 0, 0, [])), (29, .invokevirtual 257, 3, (59, 1, 0, 0, [])), (32, .iload_n 2, 1, (0, 0, 0, 0, [])), (33, .invokestatic 260, 3, (1, 2, 0, 0, [])), (36, .ifCond .eq 11, 3, (47, 0, 0, 0, [])), (39, .aload_n 0, 1, (0, 0, 0, 0, [])), (40, .iload_n 1, 1, (0, 0, 0, 0, [])), (41, .invokevirtual 87, 3, (100, 1, 0, 0, [])), (44, .goto 8, 3, (52, 0, 0, 0, [])), (47, .aload_n 0, 1, (0, 0, 0, 0, [])), (48, .iconst 3, 1, (0, 0, 3, 0, [])), (49, .invokevirtual 79, 3, (99, 1, 0, 0, [])), (52, .ireturn, 1, (0, 0, 0, 0, []))]
def g_k95 : List (Nat × g_I) := [(0, .aload_n 0, 1, (0, 0, 0, 0, [])), (1, .getfield 26, 3, (7, 2, 0, 0, [])), (4, .iload_n 1, 1, (0, 0, 0, 0, [])), (5, .invokevirtual 197, 3, (56, 1, 0, 0, [])), (8, .ifCond .eq 12, 3, (20, 0, 0, 0, [])), (11, .iload_n 2, 1, (0, 0, 0, 0, [])), (12, .ifCond .lt 8, 3, (20, 0, 0, 0, [])), (15, .iload_n 2, 1, (0, 0, 0, 0, [])), (16, .iconst 1, 1, (0, 0, 1, 0, [])), (17, .if_icmp .le 6, 3, (23, 0, 0, 0, [])), (20, .ldc 78, 2, (0, 0, -1000001, 0, [])), (22, .ireturn, 1, (0, 0, 0, 0, [])), (23, .aload_n 0, 1, (0, 0, 0, 0, [])), (24, .getfield 63, 3, (7, 8, 0, 0, [])), (27, .aload_n 0, 1, (0, 0, 0, 0, [])), (28, .getfield 26, 3, (7, 2, 0, 0, [])), (31, .iload_n 1, 1, (0, 0, 0, 0, [])), (32, .iload_n 2, 1, (0, 0, 0, 0, [])), (33, .invokevirtual 263, 3, (2, 3, 0, 0, [])), (36, .ireturn, 1, (0, 0, 0, 0, []))]
def g_k96 : List (Nat × g_I) := [(0, .iload_n 1, 1, (0, 0, 0, 0, [])), (1, .ifCond .lt 26, 3, (27, 0, 0, 0, [])), (4, .iload_n 1, 1, (0, 0, 0, 0, [])), (5, .aload_n 0, 1, (0, 0, 0, 0, [])), (6, .getfield 63, 3, (7, 8, 0, 0, [])), (9, .getfield 267, 3, (0, 1, 0, 0, [])), (12, .if_icmp .ge 15, 3, (27, 0, 0, 0, [])), (15, .aload_n 0, 1, (0, 0, 0, 0, [])), (16, .getfield 63, 3, (7, 8, 0, 0, [])), (19, .getfield 270, 3, (0, 0, 0, 0, [])), (22, .iload_n 1, 1, (0, 0, 0, 0, [])), (23, .iaload, 1, (0, 0, 0, 0, [])), (24, .goto 5, 3, (29, 0, 0, 0, [])), (27, .ldc 218, 2, (0, 0, -1000000, 0, [])), (29, .ireturn, 1, (0, 0, 0, 0, []))]
def g_k97 : List (Nat × g_I) := [(0, .iload_n 1, 1, (0, 0, 0, 0, [])), (1, .tableswitch 87 0 5 #[39, 47, 55, 63, 71, 79], 39, (88, 0, 0, 0, [40, 48, 56, 64, 72, 80])), (40, .aload_n 0, 1, (0, 0, 0, 0, [])), (41, .getfield 10, 3, (7, 0, 0, 0, [])), (44, .invokevirtual 273, 3, (33, 0, 0, 0, [])), (47, .ireturn, 1, (0, 0, 0, 0, [])), (48, .aload_n 0, 1, (0, 0, 0, 0, [])), (49, .getfield 26, 3, (7, 2, 0, 0, [])), (52, .getfield 138, 3, (5, 8, 0, 0, [])), (55, .ireturn, 1, (0, 0, 0, 0, [])), (56, .aload_n 0, 1, (0, 0, 0, 0, [])), (57, .getfield 26, 3, (7, 2, 0, 0, [])), (60, .getfield 276, 3, (5, 7, 0, 0, [])), (63, .ireturn, 1, (0, 0, 0, 0, [])), (64, .aload_n 0, 1, (0, 0, 0, 0, [])), (65, .getfield 26, 3, (7, 2, 0, 0, [])), (68, .invokevirtual 167, 3, (51, 0, 0, 0, [])), (71, .ireturn, 1, (0, 0, 0, 0, [])), (72, .aload_n 0, 1, (0, 0, 0, 0, [])), (73, .getfield 26, 3, (7, 2, 0, 0, [])), (76, .getfield 146, 3, (5, 4, 0, 0, [])), (79, .ireturn, 1, (0, 0, 0, 0, [])), (80, .aload_n 0, 1, (0, 0, 0, 0, [])), (81, .getfield 19, 3, (7, 1, 0, 0, [])), (84, .getfield 279, 3, (4, 1, 0, 0, [])), (87, .ireturn, 1, (0, 0, 0, 0, [])), (88, .ldc 78, 2, (0, 0, -1000001, 0, [])), (90, .ireturn, 1, (0, 0, 0, 0, []))]
def g_k98 : List (Nat × g_I) := [(0, .aload_n 0, 1, (0, 0, 0, 0, [])), (1, .getfield 71, 3, (7, 10, 0, 0, [])), (4, .ireturn, 1, (0, 0, 0, 0, []))]
def g_k99 : List (Nat × g_I) := [(0, .aload_n 0, 1, (0, 0, 0, 0, [])), (1, .iload_n 1, 1, (0, 0, 0, 0, [])), (2, .putfield 71, 3, (7, 10, 0, 0, [])), (5, .ldc_w 282, 3, (0, 0, -1000010, 0, [])), (8, .iload_n 1, 1, (0, 0, 0, 0, [])), (9, .isub, 1, (0, 0, 0, 0, [])), (10, .ireturn, 1, (0, 0, 0, 0, []))]
def g_k100 : List (Nat × g_I) := [(0, .aload_n 0, 1, (0, 0, 0, 0, [])), (1, .iconst 0, 1, (0, 0, 0, 0, [])), (2, .putfield 71, 3, (7, 10, 0, 0, [])), (5, .iload_n 1, 1, (0, 0, 0, 0, [])), (6, .ireturn, 1, (0, 0, 0, 0, []))]
def g_k101 : List (Nat × g_I) := [(0, .iconst 0, 1, (0, 0, 0, 0, [])), (1, .istore_n 2, 1, (0, 0, 0, 0, [])), (2, .aload_n 0, 1, (0, 0, 0, 0, [])), (3, .getfield 30, 3, (7, 3, 0, 0, [])), (6, .aload_n 0, 1, (0, 0, 0, 0, [])), (7, .getfield 26, 3, (7, 2, 0, 0, [])), (10, .invokevirtual 134, 3, (43, 1, 0, 0, [])), (13, .aload_n 0, 1, (0, 0, 0, 0, [])), (14, .getfield 30, 3, (7, 3, 0, 0, [])), (17, .invokevirtual 254, 3, (49, 0, 0, 0, [])), (20, .iconst 1, 1, (0, 0, 1, 0, [])), (21, .istore_n 3, 1, (0, 0, 0, 0, [])), (22, .iload_n 3, 1, (0, 0, 0, 0, [])), (23, .bipush 6, 2, (0, 0, 6, 0, [])), (25, .if_icmp .gt 32, 3, (57, 0, 0, 0, [])), (28, .aload_n 0, 1, (0, 0, 0, 0, [])), (29, .getfield 30, 3, (7, 3, 0, 0, [])), (32, .iload_n 3, 1, (0, 0, 0, 0, [])), (33, .putfield 146, 3, (5, 4, 0, 0, [])), (36, .iload_n 2, 1, (0, 0, 0, 0, [])), (37, .aload_n 0, 1, (0, 0, 0, 0, [])), (38, .getfield 49, 3, (7, 6, 0, 0, [])), (41, .aload_n 0, 1, (0, 0, 0, 0, [])), (42, .getfield 30, 3, (7, 3, 0, 0, [])), (45, .iload_n 1, 1, (0, 0, 0, 0, [])), (46, .invokevirtual 206, 3, (8, 2, 0, 0, [])), (49, .iadd, 1, (0, 0, 0, 0, [])), (50, .istore_n 2, 1, (0, 0, 0, 0, [])), (51, .iinc 3 1, 3, (0, 0, 1, 0, [])), (54, .goto (-32), 3, (22, 0, 0, 0, [])), (57, .iload_n 2, 1, (0, 0, 0, 0, [])), (58, .ireturn, 1, (0, 0, 0, 0, []))]
def g_k102 : List (Nat × g_I) := [(0, .iload_n 0, 1, (0, 0, 0, 0, [])), (1, .ifCond .lt 13, 3, (14, 0, 0, 0, [])), (4, .iload_n 0, 1, (0, 0, 0, 0, [])), (5, .bipush 72, 2, (0, 0, 72, 0, [])), (7, .if_icmp .gt 7, 3, (14, 0, 0, 0, [])), (10, .iconst 1, 1, (0, 0, 1, 0, [])), (11, .goto 4, 3, (15, 0, 0, 0, [])), (14, .iconst 0, 1, (0, 0, 0, 0, [])), (15, .ireturn, 1, (1, 0, 0, 0, []))]
def g_k103 : List (Nat × g_I) := [(0, .iload_n 0, 1, (0, 0, 0, 0, [])), (1, .ifCond .lt 13, 3, (14, 0, 0, 0, [])), (4, .iload_n 0, 1, (0, 0, 0, 0, [])), (5, .bipush 81, 2, (0, 0, 81, 0, [])), (7, .if_icmp .ge 7, 3, (14, 0, 0, 0, [])), (10, .iconst 1, 1, (0, 0, 1, 0, [])), (11, .goto 4, 3, (15, 0, 0, 0, [])), (14, .iconst 0, 1, (0, 0, 0, 0, [])), (15, .ireturn, 1, (1, 0, 0, 0, []))]
def g_k104 : List (Nat × g_I) := [(0, .iload_n 0, 1, (0, 0, 0, 0, [])), (1, .ifCond .lt 12, 3, (13, 0, 0, 0, [])), (4, .iload_n 0, 1, (0, 0, 0, 0, [])), (5, .iconst 5, 1, (0, 0, 5, 0, [])), (6, .if_icmp .ge 7, 3, (13, 0, 0, 0, [])), (9, .iconst 1, 1, (0, 0, 1, 0, [])), (10, .goto 4, 3, (14, 0, 0, 0, [])), (13, .iconst 0, 1, (0, 0, 0, 0, [])), (14, .ireturn, 1, (1, 0, 0, 0, []))]
def g_k105 : List (Nat × g_I) := [(0, .iload_n 0, 1, (0, 0, 0, 0, [])), (1, .bipush (-3), 2, (0, 0, -3, 0, [])), (3, .if_icmp .lt 12, 3, (15, 0, 0, 0, [])), (6, .iload_n 0, 1, (0, 0, 0, 0, [])), (7, .iconst 3, 1, (0, 0, 3, 0, [])), (8, .if_icmp .gt 7, 3, (15, 0, 0, 0, [])), (11, .iconst 1, 1, (0, 0, 1, 0, [])), (12, .goto 4, 3, (16, 0, 0, 0, [])), (15, .iconst 0, 1, (0, 0, 0, 0, [])), (16, .ireturn, 1, (1, 0, 0, 0, []))]
def g_k106 : List (Nat × g_I) := [(0, .iload_n 0, 1, (0, 0, 0, 0, [])), (1, .ifCond .lt 28, 3, (29, 0, 0, 0, [])), (4, .iload_n 0, 1, (0, 0, 0, 0, [])), (5, .bipush 9, 2, (0, 0, 9, 0, [])), (7, .if_icmp .ge 22, 3, (29, 0, 0, 0, [])), (10, .iload_n 1, 1, (0, 0, 0, 0, [])), (11, .ifCond .lt 18, 3, (29, 0, 0, 0, [])), (14, .iload_n 1, 1, (0, 0, 0, 0, [])), (15, .bipush 9, 2, (0, 0, 9, 0, [])), (17, .if_icmp .ge 12, 3, (29, 0, 0, 0, [])), (20, .iload_n 0, 1, (0, 0, 0, 0, [])), (21, .bipush 9, 2, (0, 0, 9, 0, [])), (23, .iload_n 1, 1, (0, 0, 0, 0, [])), (24, .imul, 1, (0, 0, 0, 0, [])), (25, .iadd, 1, (0, 0, 0, 0, [])), (26, .goto 5, 3, (31, 0, 0, 0, [])), (29, .ldc 218, 2, (0, 0, -1000000, 0, [])), (31, .ireturn, 1, (0, 0, 0, 0, []))]
def g_k107 : List (Nat × g_I) := [(0, .lload_n 0, 1, (0, 0, 0, 0, [])), (1, .lload_n 2, 1, (0, 0, 0, 0, [])), (2, .lcmp, 1, (0, 0, 0, 0, [])), (3, .ifCond .lt 14, 3, (17, 0, 0, 0, [])), (6, .lload_n 0, 1, (0, 0, 0, 0, [])), (7, .lload 4, 2, (0, 0, 0, 0, [])), (9, .lcmp, 1, (0, 0, 0, 0, [])), (10, .ifCond .gt 7, 3, (17, 0, 0, 0, [])), (13, .iconst 1, 1, (0, 0, 1, 0, [])), (14, .goto 4, 3, (18, 0, 0, 0, [])), (17, .iconst 0, 1, (0, 0, 0, 0, [])), (18, .ireturn, 1, (1, 0, 0, 0, []))]
def g_k108 : List (Nat × g_I) := [(0, .aload_n 0, 1, (0, 0, 0, 0, [])), (1, .iload_n 1, 1, (0, 0, 0, 0, [])), (2, .putfield 60, 3, (8, 1, 0, 0, [])), (5, .ldc 63, 2, (0, 0, -1000010, 0, [])), (7, .iload_n 1, 1, (0, 0, 0, 0, [])), (8, .isub, 1, (0, 0, 0, 0, [])), (9, .ireturn, 1, (0, 0, 0, 0, []))]
def g_k109 : List (Nat × g_I) := [(0, .iload_n 0, 1, (0, 0, 0, 0, [])), (1, .i2l, 1, (0, 0, 0, 0, [])), (2, .lconst 0, 1, (0, 0, 0, 0, [])), (3, .ldc2_w 64, 3, (0, 0, 0, 7, [])), (6, .invokestatic 66, 3, (107, 3, 0, 0, [])), (9, .ireturn, 1, (1, 0, 0, 0, []))]
def g_k110 : List (Nat × g_I) := [(0, .aload_n 0, 1, (0, 0, 0, 0, [])), (1, .iconst 0, 1, (0, 0, 0, 0, [])), (2, .putfield 56, 3, (8, 0, 0, 0, [])), (5, .iload_n 1, 1, (0, 0, 0, 0, [])), (6, .invokestatic 70, 3, (109, 1, 0, 0, [])), (9, .ifCond .eq 21, 3, (30, 0, 0, 0, [])), (12, .iload_n 2, 1, (0, 0, 0, 0, [])), (13, .i2l, 1, (0, 0, 0, 0, [])), (14, .lconst 0, 1, (0, 0, 0, 0, [])), (15, .ldc2_w 74, 3, (0, 0, 0, 2, [])), (18, .invokestatic 66, 3, (107, 3, 0, 0, [])), (21, .ifCond .eq 9, 3, (30, 0, 0, 0, [])), (24, .iload_n 3, 1, (0, 0, 0, 0, [])), (25, .bipush 40, 2, (0, 0, 40, 0, [])), (27, .if_icmp .le 6, 3, (33, 0, 0, 0, [])), (30, .ldc 76, 2, (0, 0, -1000001, 0, [])), (32, .ireturn, 1, (0, 0, 0, 0, [])), (33, .aload_n 0, 1, (0, 0, 0, 0, [])), (34, .iconst 0, 1, (0, 0, 0, 0, [])), (35, .putfield 60, 3, (8, 1, 0, 0, [])), (38, .iload_n 3, 1, (0, 0, 0, 0, [])), (39, .ifCond .ge 9, 3, (48, 0, 0, 0, [])), (42, .aload_n 0, 1, (0, 0, 0, 0, [])), (43, .iconst 4, 1, (0, 0, 4, 0, [])), (44, .invokevirtual 77, 3, (108, 1, 0, 0, [])), (47, .ireturn, 1, (0, 0, 0, 0, [])), (48, .aload_n 0, 1, (0, 0, 0, 0, [])), (49, .getfield 7, 3, (8, 2, 0, 0, [])), (52, .iload_n 1, 1, (0, 0, 0, 0, [])), (53, .iload_n 2, 1, (0, 0, 0, 0, [])), (54, .iastore, 1, (0, 0, 0, 0, [])), (55, .aload_n 0, 1, (0, 0, 0, 0, [])), (56, .getfield 13, 3, (8, 3, 0, 0, [])), (59, .iload_n 1, 1, (0, 0, 0, 0, [])), (60, .iload_n 3, 1, (0, 0, 0, 0, [])), (61, .iastore, 1, (0, 0, 0, 0, [])), (62, .iconst 0, 1, (0, 0, 0, 0, [])), (63, .istore 4, 2, (0, 0, 0, 0, [])), (65, .iload 4, 2, (0, 0, 0, 0, [])), (67, .bipush 40, 2, (0, 0, 40, 0, [])), (69, .if_icmp .ge 22, 3, (91, 0, 0, 0, [])), (72, .aload_n 0, 1, (0, 0, 0, 0, [])), (73, .getfield 16, 3, (8, 4, 0, 0, [])), (76, .bipush 40, 2, (0, 0, 40, 0, [])), (78, .iload_n 1, 1, (0, 0, 0, 0, [])), (79, .imul, 1, (0, 0, 0, 0, [])), (80, .iload 4, 2, (0, 0, 0, 0, [])), (82, .iadd, 1, (0, 0, 0, 0, [])), (83, .iconst 0, 1, (0, 0, 0, 0, [])), (84, .iastore, 1, (0, 0, 0, 0, [])), (85, .iinc 4 1, 3, (0, 0, 1, 0, [])), (88, .goto (-23), 3, (65, 0, 0, 0, [])), (91, .iload_n 3, 1, (0, 0, 0, 0, [])), (92, .ireturn, 1, (0, 0, 0, 0, []))]
def g_k111 : List (Nat × g_I) := [(0, .aload_n 0, 1, (0, 0, 0, 0, [])), (1, .iconst 0, 1, (0, 0, 0, 0, [])), (2, .putfield 56, 3, (8, 0, 0, 0, [])), (5, .iload_n 1, 1, (0, 0, 0, 0, [])), (6, .invokestatic 70, 3, (109, 1, 0, 0, [])), (9, .ifCond .ne 6, 3, (15, 0, 0, 0, [])), (12, .ldc 76, 2, (0, 0, -1000001, 0, [])), (14, .ireturn, 1, (0, 0, 0, 0, [])), (15, .aload_n 0, 1, (0, 0, 0, 0, [])), (16, .iconst 0, 1, (0, 0, 0, 0, [])), (17, .putfield 60, 3, (8, 1, 0, 0, [])), (20, .aload_n 0, 1, (0, 0, 0, 0, [])), (21, .getfield 7, 3, (8, 2, 0, 0, [])), (24, .iload_n 1, 1, (0, 0, 0, 0, [])), (25, .iaload, 1, (0, 0, 0, 0, [])), (26, .ifCond .ge 9, 3, (35, 0, 0, 0, [])), (29, .aload_n 0, 1, (0, 0, 0, 0, [])), (30, .iconst 1, 1, (0, 0, 1, 0, [])), (31, .invokevirtual 77, 3, (108, 1, 0, 0, [])), (34, .ireturn, 1, (0, 0, 0, 0, [])), (35, .iload_n 2, 1, (0, 0, 0, 0, [])), (36, .i2l, 1, (0, 0, 0, 0, [])), (37, .lconst 0, 1, (0, 0, 0, 0, [])), (38, .aload_n 0, 1, (0, 0, 0, 0, [])), (39, .getfield 13, 3, (8, 3, 0, 0, [])), (42, .iload_n 1, 1, (0, 0, 0, 0, [])), (43, .iaload, 1, (0, 0, 0, 0, [])), (44, .iconst 1, 1, (0, 0, 1, 0, [])), (45, .isub, 1, (0, 0, 0, 0, [])), (46, .i2l, 1, (0, 0, 0, 0, [])), (47, .invokestatic 66, 3, (107, 3, 0, 0, [])), (50, .ifCond .ne 9, 3, (59, 0, 0, 0, [])), (53, .aload_n 0, 1, (0, 0, 0, 0, [])), (54, .iconst 2, 1, (0, 0, 2, 0, [])), (55, .invokevirtual 77, 3, (108, 1, 0, 0, [])), (58, .ireturn, 1, (0, 0, 0, 0, [])), (59, .aload_n 0, 1, (0, 0, 0, 0, [])), (60, .getfield 16, 3, (8, 4, 0, 0, [])), (63, .bipush 40, 2, (0, 0, 40, 0, [])), (65, .iload_n 1, 1, (0, 0, 0, 0, [])), (66, .imul, 1, (0, 0, 0, 0, [])), (67, .iload_n 2, 1, (0, 0, 0, 0, [])), (68, .iadd, 1, (0, 0, 0, 0, [])), (69, .aload_n 0, 1, (0, 0, 0, 0, [])), (70, .getfield 7, 3, (8, 2, 0, 0, [])), (73, .iload_n 1, 1, (0, 0, 0, 0, [])), (74, .iaload, 1, (0, 0, 0, 0, [])), (75, .ifCond .ne 8, 3, (83, 0, 0, 0, [])), (78, .iload_n 3, 1, (0, 0, 0, 0, [])), (79, .i2b, 1, (0, 0, 0, 0, [])), (80, .goto 19, 3, (99, 0, 0, 0, [])), (83, .aload_n 0, 1, (0, 0, 0, 0, [])), (84, .getfield 7, 3, (8, 2, 0, 0, [])), (87, .iload_n 1, 1, (0, 0, 0, 0, [])), (88, .iaload, 1, (0, 0, 0, 0, [])), (89, .iconst 1, 1, (0, 0, 1, 0, [])), (90, .if_icmp .ne 8, 3, (98, 0, 0, 0, [])), (93, .iload_n 3, 1, (0, 0, 0, 0, [])), (94, .i2s, 1, (0, 0, 0, 0, [])), (95, .goto 4, 3, (99, 0, 0, 0, [])), (98, .iload_n 3, 1, (0, 0, 0, 0, [])), (99, .iastore, 1, (0, 0, 0, 0, [])), (100, .aload_n 0, 1, (0, 0, 0, 0, [])), (101, .getfield 16, 3, (8, 4, 0, 0, [])), (104, .bipush 40, 2, (0, 0, 40, 0, [])), (106, .iload_n 1, 1, (0, 0, 0, 0, [])), (107, .imul, 1, (0, 0, 0, 0, [])), (108, .iload_n 2, 1, (0, 0, 0, 0, [])), (109, .iadd, 1, (0, 0, 0, 0, [])), (110, .iaload, 1, (0, 0, 0, 0, [])), (111, .ireturn, 1, (0, 0, 0, 0, []))]
def g_k112 : List (Nat × g_I) := [(0, .aload_n 0, 1, (0, 0, 0, 0, [])), (1, .iconst 0, 1, (0, 0, 0, 0, [])), (2, .putfield 56, 3, (8, 0, 0, 0, [])), (5, .iload_n 1, 1, (0, 0, 0, 0, [])), (6, .invokestatic 70, 3, (109, 1, 0, 0, [])), (9, .ifCond .eq 10, 3, (19, 0, 0, 0, [])), (12, .iload_n 3, 1, (0, 0, 0, 0, [])), (13, .invokestatic 70, 3, (109, 1, 0, 0, [])), (16, .ifCond .ne 6, 3, (22, 0, 0, 0, [])), (19, .ldc 76, 2, (0, 0, -1000001, 0, [])), (21, .ireturn, 1, (0, 0, 0, 0, [])), (22, .aload_n 0, 1, (0, 0, 0, 0, [])), (23, .iconst 0, 1, (0, 0, 0, 0, [])), (24, .putfield 60, 3, (8, 1, 0, 0, [])), (27, .aload_n 0, 1, (0, 0, 0, 0, [])), (28, .getfield 7, 3, (8, 2, 0, 0, [])), (31, .iload_n 1, 1, (0, 0, 0, 0, [])), (32, .iaload, 1, (0, 0, 0, 0, [])), (33, .ifCond .lt 12, 3, (45, 0, 0, 0, [])), (36, .aload_n 0, 1, (0, 0, 0, 0, [])), (37, .getfield 7, 3, (8, 2, 0, 0, [])), (40, .iload_n 3, 1, (0, 0, 0, 0, [])), (41, .iaload, 1, (0, 0, 0, 0, [])), (42, .ifCond .ge 9, 3, (51, 0, 0, 0, [])), (45, .aload_n 0, 1, (0, 0, 0, 0, [])), (46, .iconst 1, 1, (0, 0, 1, 0, [])), (47, .invokevirtual 77, 3, (108, 1, 0, 0, [])), (50, .ireturn, 1, (0, 0, 0, 0, [])), (51, .aload_n 0, 1, (0, 0, 0, 0, [])), (52, .getfield 7, 3, (8, 2, 0, 0, [])), (55, .iload_n 1, 1, (0, 0, 0, 0, [])), (56, .iaload, 1, (0, 0, 0, 0, [])), (57, .aload_n 0, 1, (0, 0, 0, 0, [])), (58, .getfield 7, 3, (8, 2, 0, 0, [])), (61, .iload_n 3, 1, (0, 0, 0, 0, [])), (62, .iaload, 1, (0, 0, 0, 0, [])), (63, .if_icmp .eq 9, 3, (72, 0, 0, 0, [])), (66, .aload_n 0, 1, (0, 0, 0, 0, [])), (67, .iconst 5, 1, (0, 0, 5, 0, [])), (68, .invokevirtual 77, 3, (108, 1, 0, 0, [])), (71, .ireturn, 1, (0, 0, 0, 0, [])), (72, .iload_n 2, 1, (0, 0, 0, 0, [])), (73, .ifCond .lt 48, 3, (121, 0, 0, 0, [])), (76, .iload 4, 2, (0, 0, 0, 0, [])), (78, .ifCond .lt 43, 3, (121, 0, 0, 0, [])), (81, .iload 5, 2, (0, 0, 0, 0, [])), (83, .ifCond .lt 38, 3, (121, 0, 0, 0, [])), (86, .iload_n 2, 1, (0, 0, 0, 0, [])), (87, .i2l, 1, (0, 0, 0, 0, [])), (88, .iload 5, 2, (0, 0, 0, 0, [])), (90, .i2l, 1, (0, 0, 0, 0, [])), (91, .ladd, 1, (0, 0, 0, 0, [])), (92, .aload_n 0, 1, (0, 0, 0, 0, [])), (93, .getfield 13, 3, (8, 3, 0, 0, [])), (96, .iload_n 1, 1, (0, 0, 0, 0, [])), (97, .iaload, 1, (0, 0, 0, 0, [])), (98, .i2l, 1, (0, 0, 0, 0, [])), (99, .lcmp, 1, (0, 0, 0, 0, [])), (100, .ifCond .gt 21, 3, (121, 0, 0, 0, [])), (103, .iload 4, 2, (0, 0, 0, 0, [])), (105, .i2l, 1, (0, 0, 0, 0, [])), (106, .iload 5, 2, (0, 0, 0, 0, [])), (108, .i2l, 1, (0, 0, 0, 0, [])), (109, .ladd, 1, (0, 0, 0, 0, [])), (110, .aload_n 0, 1, (0, 0, 0, 0, [])), (111, .getfield 13, 3, (8, 3, 0, 0, [])), (114, .iload_n 3, 1, (0, 0, 0, 0, [])), (115, .iaload, 1, (0, 0, 0, 0, [])), (116, .i2l, 1, (0, 0, 0, 0, [])), (117, .lcmp, 1, (0, 0, 0, 0, [])), (118, .ifCond .le 9, 3, (127, 0, 0, 0, [])), (121, .aload_n 0, 1, (0, 0, 0, 0, [])), (122, .iconst 2, 1, (0, 0, 2, 0, [])), (123, .invokevirtual 77, 3, (108, 1, 0, 0, [])), (126, .ireturn, 1, (0, 0, 0, 0, [])), (127, .iload_n 2, 1, (0, 0, 0, 0, [])), (128, .iload 4, 2, (0, 0, 0, 0, [])), (130, .if_icmp .lt 7, 3, (137, 0, 0, 0, [])), (133, .iconst 1, 1, (0, 0, 1, 0, [])), (134, .goto 4, 3, (138, 0, 0, 0, [])), (137, .iconst 0, 1, (0, 0, 0, 0, [])), (138, .istore 6, 2, (0, 0, 0, 0, [])), (140, .iconst 0, 1, (0, 0, 0, 0, [])), (141, .istore 7, 2, (0, 0, 0, 0, [])), (143, .iload 7, 2, (0, 0, 0, 0, [])), (145, .iload 5, 2, (0, 0, 0, 0, [])), (147, .if_icmp .ge 57, 3, (204, 0, 0, 0, [])), (150, .iload 6, 2, (0, 0, 0, 0, [])), (152, .ifCond .eq 8, 3, (160, 0, 0, 0, [])), (155, .iload 7, 2, (0, 0, 0, 0, [])), (157, .goto 10, 3, (167, 0, 0, 0, [])), (160, .iload 5, 2, (0, 0, 0, 0, [])), (162, .iconst 1, 1, (0, 0, 1, 0, [])), (163, .isub, 1, (0, 0, 0, 0, [])), (164, .iload 7, 2, (0, 0, 0, 0, [])), (166, .isub, 1, (0, 0, 0, 0, [])), (167, .istore 8, 2, (0, 0, 0, 0, [])), (169, .aload_n 0, 1, (0, 0, 0, 0, [])), (170, .getfield 16, 3, (8, 4, 0, 0, [])), (173, .bipush 40, 2, (0, 0, 40, 0, [])), (175, .iload_n 3, 1, (0, 0, 0, 0, [])), (176, .imul, 1, (0, 0, 0, 0, [])), (177, .iload 4, 2, (0, 0, 0, 0, [])), (179, .iadd, 1, (0, 0, 0, 0, [])), (180, .iload 8, 2, (0, 0, 0, 0, [])), (182, .iadd, 1, (0, 0, 0, 0, [])), (183, .aload_n 0, 1, (0, 0, 0, 0, [])), (184, .getfield 16, 3, (8, 4, 0, 0, [])), (187, .bipush 40, 2, (0, 0, 40, 0, [])), (189, .iload_n 1, 1, (0, 0, 0, 0, [])), (190, .imul, 1, (0, 0, 0, 0, [])), (191, .iload_n 2, 1, (0, 0, 0, 0, [])), (192, .iadd, 1, (0, 0, 0, 0, [])), (193, .iload 8, 2, (0, 0, 0, 0, [])), (195, .iadd, 1, (0, 0, 0, 0, [])), (196, .iaload, 1, (0, 0, 0, 0, [])), (197, .iastore, 1, (0, 0, 0, 0, [])), (198, .iinc 7 1, 3, (0, 0, 1, 0, [])), (201, .goto (-58), 3, (143, 0, 0, 0, [])), (204, .iload 5, 2, (0, 0, 0, 0, [])), (206, .ireturn, 1, (0, 0, 0, 0, []))]
def g_k113 : List (Nat × g_I) := [(0, .aload_n 0, 1, (0, 0, 0, 0, [])), (1, .iconst 0, 1, (0, 0, 0, 0, [])), (2, .putfield 56, 3, (8, 0, 0, 0, [])), (5, .iload_n 1, 1, (0, 0, 0, 0, [])), (6, .invokestatic 70, 3, (109, 1, 0, 0, [])), (9, .ifCond .ne 6, 3, (15, 0, 0, 0, [])), (12, .ldc 76, 2, (0, 0, -1000001, 0, [])), (14, .ireturn, 1, (0, 0, 0, 0, [])), (15, .aload_n 0, 1, (0, 0, 0, 0, [])), (16, .iconst 0, 1, (0, 0, 0, 0, [])), (17, .putfield 60, 3, (8, 1, 0, 0, [])), (20, .aload_n 0, 1, (0, 0, 0, 0, [])), (21, .getfield 7, 3, (8, 2, 0, 0, [])), (24, .iload_n 1, 1, (0, 0, 0, 0, [])), (25, .iaload, 1, (0, 0, 0, 0, [])), (26, .ifCond .ge 9, 3, (35, 0, 0, 0, [])), (29, .aload_n 0, 1, (0, 0, 0, 0, [])), (30, .iconst 1, 1, (0, 0, 1, 0, [])), (31, .invokevirtual 77, 3, (108, 1, 0, 0, [])), (34, .ireturn, 1, (0, 0, 0, 0, [])), (35, .aload_n 0, 1, (0, 0, 0, 0, [])), (36, .getfield 7, 3, (8, 2, 0, 0, [])), (39, .iload_n 1, 1, (0, 0, 0, 0, [])), (40, .iconst (-1), 1, (0, 0, -1, 0, [])), (41, .iastore, 1, (0, 0, 0, 0, [])), (42, .aload_n 0, 1, (0, 0, 0, 0, [])), (43, .getfield 13, 3, (8, 3, 0, 0, [])), (46, .iload_n 1, 1, (0, 0, 0, 0, [])), (47, .iaload, 1, (0, 0, 0, 0, [])), (48, .ireturn, 1, (0, 0, 0, 0, []))]
def g_k114 : List (Nat × g_I) := [(0, .aload_n 0, 1, (0, 0, 0, 0, [])), (1, .iconst 0, 1, (0, 0, 0, 0, [])), (2, .putfield 56, 3, (8, 0, 0, 0, [])), (5, .iload_n 3, 1, (0, 0, 0, 0, [])), (6, .i2l, 1, (0, 0, 0, 0, [])), (7, .lconst 1, 1, (0, 0, 0, 1, [])), (8, .ldc2_w 81, 3, (0, 0, 0, 8, [])), (11, .invokestatic 66, 3, (107, 3, 0, 0, [])), (14, .ifCond .ne 6, 3, (20, 0, 0, 0, [])), (17, .ldc 76, 2, (0, 0, -1000001, 0, [])), (19, .ireturn, 1, (0, 0, 0, 0, [])), (20, .aload_n 0, 1, (0, 0, 0, 0, [])), (21, .getfield 83, 3, (8, 8, 0, 0, [])), (24, .iload_n 3, 1, (0, 0, 0, 0, [])), (25, .iadd, 1, (0, 0, 0, 0, [])), (26, .sipush 400, 3, (0, 0, 400, 0, [])), (29, .if_icmp .le 6, 3, (35, 0, 0, 0, [])), (32, .ldc 86, 2, (0, 0, -1000003, 0, [])), (34, .ireturn, 1, (0, 0, 0, 0, [])), (35, .iload_n 3, 1, (0, 0, 0, 0, [])), (36, .iconst 1, 1, (0, 0, 1, 0, [])), (37, .isub, 1, (0, 0, 0, 0, [])), (38, .istore 4, 2, (0, 0, 0, 0, [])), (40, .iload 4, 2, (0, 0, 0, 0, [])), (42, .ifCond .lt 40, 3, (82, 0, 0, 0, [])), (45, .aload_n 0, 1, (0, 0, 0, 0, [])), (46, .getfield 25, 3, (8, 7, 0, 0, [])), (49, .aload_n 0, 1, (0, 0, 0, 0, [])), (50, .getfield 83, 3, (8, 8, 0, 0, [])), (53, .lload_n 1, 1, (0, 0, 0, 0, [])), (54, .bipush 8, 2, (0, 0, 8, 0, [])), (56, .iload 4, 2, (0, 0, 0, 0, [])), (58, .imul, 1, (0, 0, 0, 0, [])), (59, .lshr, 1, (0, 0, 0, 0, [])), (60, .ldc2_w 87, 3, (0, 0, 0, 255, [])), (63, .land, 1, (0, 0, 0, 0, [])), (64, .l2i, 1, (0, 0, 0, 0, [])), (65, .iastore, 1, (0, 0, 0, 0, [])), (66, .aload_n 0, 1, (0, 0, 0, 0, [])), (67, .dup, 1, (0, 0, 0, 0, [])), (68, .getfield 83, 3, (8, 8, 0, 0, [])), (71, .iconst 1, 1, (0, 0, 1, 0, [])), (72, .iadd, 1, (0, 0, 0, 0, [])), (73, .putfield 83, 3, (8, 8, 0, 0, [])), (76, .iinc 4 (-1), 3, (0, 0, -1, 0, [])), (79, .goto (-39), 3, (40, 0, 0, 0, [])), (82, .aload_n 0, 1, (0, 0, 0, 0, [])), (83, .getfield 83, 3, (8, 8, 0, 0, [])), (86, .ireturn, 1, (0, 0, 0, 0, []))]
def g_k115 : List (Nat × g_I) := [(0, .iload_n 1, 1, (0, 0, 0, 0, [])), (1, .aload_n 0, 1, (0, 0, 0, 0, [])), (2, .getfield 89, 3, (8, 10, 0, 0, [])), (5, .if_icmp .ge 12, 3, (17, 0, 0, 0, [])), (8, .aload_n 0, 1, (0, 0, 0, 0, [])), (9, .getfield 25, 3, (8, 7, 0, 0, [])), (12, .iload_n 1, 1, (0, 0, 0, 0, [])), (13, .iaload, 1, (0, 0, 0, 0, [])), (14, .goto 5, 3, (19, 0, 0, 0, [])), (17, .ldc 92, 2, (0, 0, -1000000, 0, [])), (19, .ireturn, 1, (0, 0, 0, 0, []))]
def g_k116 : List (Nat × g_I) := [(0, .iload_n 0, 1, (0, 0, 0, 0, [])), (1, .bipush 97, 2, (0, 0, 97, 0, [])), (3, .if_icmp .lt 13, 3, (16, 0, 0, 0, [])), (6, .iload_n 0, 1, (0, 0, 0, 0, [])), (7, .bipush 122, 2, (0, 0, 122, 0, [])), (9, .if_icmp .gt 7, 3, (16, 0, 0, 0, [])), (12, .iconst 1, 1, (0, 0, 1, 0, [])), (13, .goto 4, 3, (17, 0, 0, 0, [])), (16, .iconst 0, 1, (0, 0, 0, 0, [])), (17, .ireturn, 1, (1, 0, 0, 0, []))]
def g_k117 : List (Nat × g_I) := [(0, .iload_n 0, 1, (0, 0, 0, 0, [])), (1, .bipush 48, 2, (0, 0, 48, 0, [])), (3, .if_icmp .lt 13, 3, (16, 0, 0, 0, [])), (6, .iload_n 0, 1, (0, 0, 0, 0, [])), (7, .bipush 57, 2, (0, 0, 57, 0, [])), (9, .if_icmp .gt 7, 3, (16, 0, 0, 0, [])), (12, .iconst 1, 1, (0, 0, 1, 0, [])), (13, .goto 4, 3, (17, 0, 0, 0, [])), (16, .iconst 0, 1, (0, 0, 0, 0, [])), (17, .ireturn, 1, (1, 0, 0, 0, []))]
def g_k118 : List (Nat × g_I) := [(0, .aload_n 0, 1, (0, 0, 0, 0, [])), (1, .aload_n 0, 1, (0, 0, 0, 0, [])), (2, .getfield 93, 3, (8, 11, 0, 0, [])), (5, .invokevirtual 96, 3, (115, 1, 0, 0, [])), (8, .bipush 32, 2, (0, 0, 32, 0, [])), (10, .if_icmp .eq 16, 3, (26, 0, 0, 0, [])), (13, .aload_n 0, 1, (0, 0, 0, 0, [])), (14, .aload_n 0, 1, (0, 0, 0, 0, [])), (15, .getfield 93, 3, (8, 11, 0, 0, [])), (18, .invokevirtual 96, 3, (115, 1, 0, 0, [])), (21, .bipush 10, 2, (0, 0, 10, 0, [])), (23, .if_icmp .ne 16, 3, (39, 0, 0, 0, [])), (26, .aload_n 0, 1, (0, 0, 0, 0, [])), (27, .dup, 1, (0, 0, 0, 0, [])), (28, .getfield 93, 3, (8, 11, 0, 0, [])), (31, .iconst 1, 1, (0, 0, 1, 0, [])), (32, .iadd, 1, (0, 0, 0, 0, [])), (33, .putfield 93, 3, (8, 11, 0, 0, [])), (36, .goto (-36), 3, (0, 0, 0, 0, [])), (39, .aload_n 0, 1, (0, 0, 0, 0, [])), (40, .aload_n 0, 1, (0, 0, 0, 0, [])), (41, .getfield 93, 3, (8, 11, 0, 0, [])), (44, .putfield 99, 3, (8, 13, 0, 0, [])), (47, .aload_n 0, 1, (0, 0, 0, 0, [])), (48, .aload_n 0, 1, (0, 0, 0, 0, [])), (49, .getfield 93, 3, (8, 11, 0, 0, [])), (52, .invokevirtual 96, 3, (115, 1, 0, 0, [])), (55, .istore_n 1, 1, (0, 0, 0, 0, [])), (56, .iload_n 1, 1, (0, 0, 0, 0, [])), (57, .ldc 92, 2, (0, 0, -1000000, 0, [])), (59, .if_icmp .ne 11, 3, (70, 0, 0, 0, [])), (62, .aload_n 0, 1, (0, 0, 0, 0, [])), (63, .iconst 1, 1, (0, 0, 1, 0, [])), (64, .putfield 102, 3, (8, 12, 0, 0, [])), (67, .goto 129, 3, (196, 0, 0, 0, [])), (70, .iload_n 1, 1, (0, 0, 0, 0, [])), (71, .invokestatic 105, 3, (116, 1, 0, 0, [])), (74, .ifCond .eq 38, 3, (112, 0, 0, 0, [])), (77, .aload_n 0, 1, (0, 0, 0, 0, [])), (78, .aload_n 0, 1, (0, 0, 0, 0, [])), (79, .getfield 93, 3, (8, 11, 0, 0, [])), (82, .invokevirtual 96, 3, (115, 1, 0, 0, [])), (85, .invokestatic 105, 3, (116, 1, 0, 0, [])), (88, .ifCond .eq 16, 3, (104, 0, 0, 0, [])), (91, .aload_n 0, 1, (0, 0, 0, 0, [])), (92, .dup, 1, (0, 0, 0, 0, [])), (93, .getfield 93, 3, (8, 11, 0, 0, [])), (96, .iconst 1, 1, (0, 0, 1, 0, [])), (97, .iadd, 1, (0, 0, 0, 0, [])), (98, .putfield 93, 3, (8, 11, 0, 0, [])), (101, .goto (-24), 3, (77, 0, 0, 0, [])), (104, .aload_n 0, 1, (0, 0, 0, 0, [])), (105, .iconst 2, 1, (0, 0, 2, 0, [])), (106, .putfield 102, 3, (8, 12, 0, 0, [])), (109, .goto 87, 3, (196, 0, 0, 0, [])), (112, .iload_n 1, 1, (0, 0, 0, 0, [])), (113, .invokestatic 108, 3, (117, 1, 0, 0, [])), (116, .ifCond .eq 55, 3, (171, 0, 0, 0, [])), (119, .aload_n 0, 1, (0, 0, 0, 0, [])), (120, .aload_n 0, 1, (0, 0, 0, 0, [])), (121, .getfield 93, 3, (8, 11, 0, 0, [])), (124, .invokevirtual 96, 3, (115, 1, 0, 0, [])), (127, .invokestatic 108, 3, (117, 1, 0, 0, [])), (130, .ifCond .eq 16, 3, (146, 0, 0, 0, [])), (133, .aload_n 0, 1, (0, 0, 0, 0, [])), (134, .dup, 1, (0, 0, 0, 0, [])), (135, .getfield 93, 3, (8, 11, 0, 0, [])), (138, .iconst 1, 1, (0, 0, 1, 0, [])), (139, .iadd, 1, (0, 0, 0, 0, [])), (140, .putfield 93, 3, (8, 11, 0, 0, [])), (143, .goto (-24), 3, (119, 0, 0, 0, [])), (146, .aload_n 0, 1, (0, 0, 0, 0, [])), (147, .aload_n 0, 1, (0, 0, 0, 0, [])), (148, .getfield 93, 3, (8, 11, 0, 0, [])), (151, .aload_n 0, 1, (0, 0, 0, 0, [])), (152, .getfield 99, 3, (8, 13, 0, 0, [])), (155, .isub, 1, (0, 0, 0, 0, [])), (156, .iconst 3, 1, (0, 0, 3, 0, [])), (157, .if_icmp .le 7, 3, (164, 0, 0, 0, [])), (160, .iconst 0, 1, (0, 0, 0, 0, [])), (161, .goto 4, 3, (165, 0, 0, 0, [])), (164, .iconst 3, 1, (0, 0, 3, 0, [])), (165, .putfield 102, 3, (8, 12, 0, 0, [])), (168, .goto 28, 3, (196, 0, 0, 0, [])), (171, .aload_n 0, 1, (0, 0, 0, 0, [])), (172, .dup, 1, (0, 0, 0, 0, [])), (173, .getfield 93, 3, (8, 11, 0, 0, [])), (176, .iconst 1, 1, (0, 0, 1, 0, [])), (177, .iadd, 1, (0, 0, 0, 0, [])), (178, .putfield 93, 3, (8, 11, 0, 0, [])), (181, .aload_n 0, 1, (0, 0, 0, 0, [])), (182, .iload_n 1, 1, (0, 0, 0, 0, [])), (183, .bipush 59, 2, (0, 0, 59, 0, [])), (185, .if_icmp .ne 7, 3, (192, 0, 0, 0, [])), (188, .iconst 4, 1, (0, 0, 4, 0, [])), (189, .goto 4, 3, (193, 0, 0, 0, [])), (192, .iconst 0, 1, (0, 0, 0, 0, [])), (193, .putfield 102, 3, (8, 12, 0, 0, [])), (196, .aload_n 0, 1, (0, 0, 0, 0, [])), (197, .aload_n 0, 1, (0, 0, 0, 0, [])), (198, .getfield 93, 3, (8, 11, 0, 0, [])), (201, .putfield 111, 3, (8, 14, 0, 0, [])), (204, .return_, 1, (0, 0, 0, 0, []))]
def g_k119 : List (Nat × g_I) := [(0, .aload_n 0, 1, (0, 0, 0, 0, [])), (1, .aload_n 0, 1, (0, 0, 0, 0, [])), (2, .getfield 83, 3, (8, 8, 0, 0, [])), (5, .putfield 89, 3, (8, 10, 0, 0, [])), (8, .aload_n 0, 1, (0, 0, 0, 0, [])), (9, .iconst 0, 1, (0, 0, 0, 0, [])), (10, .putfield 83, 3, (8, 8, 0, 0, [])), (13, .aload_n 0, 1, (0, 0, 0, 0, [])), (14, .iconst 0, 1, (0, 0, 0, 0, [])), (15, .putfield 93, 3, (8, 11, 0, 0, [])), (18, .aload_n 0, 1, (0, 0, 0, 0, [])), (19, .iconst 0, 1, (0, 0, 0, 0, [])), (20, .putfield 114, 3, (8, 15, 0, 0, [])), (23, .aload_n 0, 1, (0, 0, 0, 0, [])), (24, .invokevirtual 117, 3, (118, 0, 0, 0, [])), (27, .return_, 1, (0, 0, 0, 0, []))]
def g_k120 : List (Nat × g_I) := [(0, .aload_n 0, 1, (0, 0, 0, 0, [])), (1, .getfield 114, 3, (8, 15, 0, 0, [])), (4, .ifCond .ne 16, 3, (20, 0, 0, 0, [])), (7, .aload_n 0, 1, (0, 0, 0, 0, [])), (8, .iload_n 1, 1, (0, 0, 0, 0, [])), (9, .putfield 114, 3, (8, 15, 0, 0, [])), (12, .aload_n 0, 1, (0, 0, 0, 0, [])), (13, .aload_n 0, 1, (0, 0, 0, 0, [])), (14, .getfield 99, 3, (8, 13, 0, 0, [])), (17, .putfield 120, 3, (8, 16, 0, 0, [])), (20, .return_, 1, (0, 0, 0, 0, []))]
def g_k121 : List (Nat × g_I) := [(0, .iload_n 1, 1, (0, 0, 0, 0, [])), (1, .ifCond .ne 8, 3, (9, 0, 0, 0, [])), (4, .aload_n 0, 1, (0, 0, 0, 0, [])), (5, .iconst 1, 1, (0, 0, 1, 0, [])), (6, .invokevirtual 123, 3, (120, 1, 0, 0, [])), (9, .aload_n 0, 1, (0, 0, 0, 0, [])), (10, .getfield 114, 3, (8, 15, 0, 0, [])), (13, .ifCond .ne 7, 3, (20, 0, 0, 0, [])), (16, .aload_n 0, 1, (0, 0, 0, 0, [])), (17, .invokevirtual 117, 3, (118, 0, 0, 0, [])), (20, .return_, 1, (0, 0, 0, 0, []))]
def g_k122 : List (Nat × g_I) := [(0, .lconst 0, 1, (0, 0, 0, 0, [])), (1, .lstore_n 1, 1, (0, 0, 0, 0, [])), (2, .aload_n 0, 1, (0, 0, 0, 0, [])), (3, .getfield 99, 3, (8, 13, 0, 0, [])), (6, .istore_n 3, 1, (0, 0, 0, 0, [])), (7, .iload_n 3, 1, (0, 0, 0, 0, [])), (8, .aload_n 0, 1, (0, 0, 0, 0, [])), (9, .getfield 111, 3, (8, 14, 0, 0, [])), (12, .if_icmp .ge 44, 3, (56, 0, 0, 0, [])), (15, .aload_n 0, 1, (0, 0, 0, 0, [])), (16, .getfield 102, 3, (8, 12, 0, 0, [])), (19, .iconst 2, 1, (0, 0, 2, 0, [])), (20, .if_icmp .ne 36, 3, (56, 0, 0, 0, [])), (23, .aload_n 0, 1, (0, 0, 0, 0, [])), (24, .getfield 111, 3, (8, 14, 0, 0, [])), (27, .aload_n 0, 1, (0, 0, 0, 0, [])), (28, .getfield 99, 3, (8, 13, 0, 0, [])), (31, .isub, 1, (0, 0, 0, 0, [])), (32, .bipush 8, 2, (0, 0, 8, 0, [])), (34, .if_icmp .ge 22, 3, (56, 0, 0, 0, [])), (37, .lload_n 1, 1, (0, 0, 0, 0, [])), (38, .bipush 8, 2, (0, 0, 8, 0, [])), (40, .lshl, 1, (0, 0, 0, 0, [])), (41, .aload_n 0, 1, (0, 0, 0, 0, [])), (42, .getfield 25, 3, (8, 7, 0, 0, [])), (45, .iload_n 3, 1, (0, 0, 0, 0, [])), (46, .iaload, 1, (0, 0, 0, 0, [])), (47, .i2l, 1, (0, 0, 0, 0, [])), (48, .lor, 1, (0, 0, 0, 0, [])), (49, .lstore_n 1, 1, (0, 0, 0, 0, [])), (50, .iinc 3 1, 3, (0, 0, 1, 0, [])), (53, .goto (-46), 3, (7, 0, 0, 0, [])), (56, .aload_n 0, 1, (0, 0, 0, 0, [])), (57, .getfield 114, 3, (8, 15, 0, 0, [])), (60, .ifCond .ne 7, 3, (67, 0, 0, 0, [])), (63, .lload_n 1, 1, (0, 0, 0, 0, [])), (64, .goto 4, 3, (68, 0, 0, 0, [])), (67, .lconst 0, 1, (0, 0, 0, 0, [])), (68, .lreturn, 1, (0, 0, 0, 0, []))]
def g_k123 : List (Nat × g_I) := [(0, .iconst 0, 1, (0, 0, 0, 0, [])), (1, .istore_n 1, 1, (0, 0, 0, 0, [])), (2, .aload_n 0, 1, (0, 0, 0, 0, [])), (3, .getfield 99, 3, (8, 13, 0, 0, [])), (6, .istore_n 2, 1, (0, 0, 0, 0, [])), (7, .iload_n 2, 1, (0, 0, 0, 0, [])), (8, .aload_n 0, 1, (0, 0, 0, 0, [])), (9, .getfield 111, 3, (8, 14, 0, 0, [])), (12, .if_icmp .ge 32, 3, (44, 0, 0, 0, [])), (15, .aload_n 0, 1, (0, 0, 0, 0, [])), (16, .getfield 102, 3, (8, 12, 0, 0, [])), (19, .iconst 3, 1, (0, 0, 3, 0, [])), (20, .if_icmp .ne 24, 3, (44, 0, 0, 0, [])), (23, .bipush 10, 2, (0, 0, 10, 0, [])), (25, .iload_n 1, 1, (0, 0, 0, 0, [])), (26, .imul, 1, (0, 0, 0, 0, [])), (27, .aload_n 0, 1, (0, 0, 0, 0, [])), (28, .getfield 25, 3, (8, 7, 0, 0, [])), (31, .iload_n 2, 1, (0, 0, 0, 0, [])), (32, .iaload, 1, (0, 0, 0, 0, [])), (33, .iadd, 1, (0, 0, 0, 0, [])), (34, .bipush 48, 2, (0, 0, 48, 0, [])), (36, .isub, 1, (0, 0, 0, 0, [])), (37, .istore_n 1, 1, (0, 0, 0, 0, [])), (38, .iinc 2 1, 3, (0, 0, 1, 0, [])), (41, .goto (-34), 3, (7, 0, 0, 0, [])), (44, .iload_n 1, 1, (0, 0, 0, 0, [])), (45, .ireturn, 1, (0, 0, 0, 0, []))]
def g_k124 : List (Nat × g_I) := [(0, .aload_n 0, 1, (0, 0, 0, 0, [])), (1, .getfield 114, 3, (8, 15, 0, 0, [])), (4, .ifCond .le 5, 3, (9, 0, 0, 0, [])), (7, .iconst 0, 1, (0, 0, 0, 0, [])), (8, .ireturn, 1, (0, 0, 0, 0, [])), (9, .aload_n 0, 1, (0, 0, 0, 0, [])), (10, .invokevirtual 127, 3, (123, 0, 0, 0, [])), (13, .istore_n 3, 1, (0, 0, 0, 0, [])), (14, .aload_n 0, 1, (0, 0, 0, 0, [])), (15, .getfield 102, 3, (8, 12, 0, 0, [])), (18, .iconst 3, 1, (0, 0, 3, 0, [])), (19, .if_icmp .ne 20, 3, (39, 0, 0, 0, [])), (22, .iload_n 3, 1, (0, 0, 0, 0, [])), (23, .i2l, 1, (0, 0, 0, 0, [])), (24, .iload_n 1, 1, (0, 0, 0, 0, [])), (25, .i2l, 1, (0, 0, 0, 0, [])), (26, .iload_n 2, 1, (0, 0, 0, 0, [])), (27, .i2l, 1, (0, 0, 0, 0, [])), (28, .invokestatic 66, 3, (107, 3, 0, 0, [])), (31, .ifCond .ne 8, 3, (39, 0, 0, 0, [])), (34, .aload_n 0, 1, (0, 0, 0, 0, [])), (35, .iconst 2, 1, (0, 0, 2, 0, [])), (36, .invokevirtual 123, 3, (120, 1, 0, 0, [])), (39, .aload_n 0, 1, (0, 0, 0, 0, [])), (40, .aload_n 0, 1, (0, 0, 0, 0, [])), (41, .getfield 102, 3, (8, 12, 0, 0, [])), (44, .iconst 3, 1, (0, 0, 3, 0, [])), (45, .if_icmp .ne 7, 3, (52, 0, 0, 0, [])), (48, .iconst 1, 1, (0, 0, 1, 0, [])), (49, .goto 4, 3, (53, 0, 0, 0, [])), (52, .iconst 0, 1, (0, 0, 0, 0, [])), (53, .invokevirtual 131, 3, (121, 1, 0, 0, [])), (56, .iload_n 3, 1, (0, 0, 0, 0, [])), (57, .ireturn, 1, (0, 0, 0, 0, []))]
def g_k125 : List (Nat × g_I) := [(0, .lload_n 0, 1, (0, 0, 0, 0, [])), (1, .ldc2_w 135, 3, (0, 0, 0, 1684107883, [])), (4, .lcmp, 1, (0, 0, 0, 0, [])), (5, .ifCond .ne 7, 3, (12, 0, 0, 0, [])), (8, .iconst 1, 1, (0, 0, 1, 0, [])), (9, .goto 53, 3, (62, 0, 0, 0, [])), (12, .lload_n 0, 1, (0, 0, 0, 0, [])), (13, .ldc2_w 137, 3, (0, 0, 0, 495891410553, [])), (16, .lcmp, 1, (0, 0, 0, 0, [])), (17, .ifCond .ne 7, 3, (24, 0, 0, 0, [])), (20, .iconst 4, 1, (0, 0, 4, 0, [])), (21, .goto 41, 3, (62, 0, 0, 0, [])), (24, .lload_n 0, 1, (0, 0, 0, 0, [])), (25, .ldc2_w 139, 3, (0, 0, 0, 1852796782, [])), (28, .lcmp, 1, (0, 0, 0, 0, [])), (29, .ifCond .ne 7, 3, (36, 0, 0, 0, [])), (32, .iconst 2, 1, (0, 0, 2, 0, [])), (33, .goto 29, 3, (62, 0, 0, 0, [])), (36, .lload_n 0, 1, (0, 0, 0, 0, [])), (37, .ldc2_w 141, 3, (0, 0, 0, 1835103091, [])), (40, .lcmp, 1, (0, 0, 0, 0, [])), (41, .ifCond .ne 7, 3, (48, 0, 0, 0, [])), (44, .iconst 3, 1, (0, 0, 3, 0, [])), (45, .goto 17, 3, (62, 0, 0, 0, [])), (48, .lload_n 0, 1, (0, 0, 0, 0, [])), (49, .ldc2_w 143, 3, (0, 0, 0, 1818324336, [])), (52, .lcmp, 1, (0, 0, 0, 0, [])), (53, .ifCond .ne 7, 3, (60, 0, 0, 0, [])), (56, .iconst 5, 1, (0, 0, 5, 0, [])), (57, .goto 5, 3, (62, 0, 0, 0, [])), (60, .ldc 92, 2, (0, 0, -1000000, 0, [])), (62, .ireturn, 1, (0, 0, 0, 0, []))]
def g_k126 : List (Nat × g_I) := [(0, .aload_n 0, 1, (0, 0, 0, 0, [])), (1, .getfield 114, 3, (8, 15, 0, 0, [])), (4, .ifCond .ne 20, 3, (24, 0, 0, 0, [])), (7, .aload_n 0, 1, (0, 0, 0, 0, [])), (8, .aload_n 0, 1, (0, 0, 0, 0, [])), (9, .getfield 102, 3, (8, 12, 0, 0, [])), (12, .iconst 4, 1, (0, 0, 4, 0, [])), (13, .if_icmp .ne 7, 3, (20, 0, 0, 0, [])), (16, .iconst 1, 1, (0, 0, 1, 0, [])), (17, .goto 4, 3, (21, 0, 0, 0, [])), (20, .iconst 0, 1, (0, 0, 0, 0, [])), (21, .invokevirtual 131, 3, (121, 1, 0, 0, [])), (24, .return_, 1, (0, 0, 0, 0, []))]
def g_k127 : List (Nat × g_I) := [(0, .aload_n 0, 1, (0, 0, 0, 0, [])), (1, .getfield 22, 3, (8, 6, 0, 0, [])), (4, .iload_n 1, 1, (0, 0, 0, 0, [])), (5, .iaload, 1, (0, 0, 0, 0, [])), (6, .iload_n 2, 1, (0, 0, 0, 0, [])), (7, .if_icmp .ne 8, 3, (15, 0, 0, 0, [])), (10, .aload_n 0, 1, (0, 0, 0, 0, [])), (11, .iconst 3, 1, (0, 0, 3, 0, [])), (12, .invokevirtual 123, 3, (120, 1, 0, 0, [])), (15, .aload_n 0, 1, (0, 0, 0, 0, [])), (16, .iconst 1, 1, (0, 0, 1, 0, [])), (17, .invokevirtual 131, 3, (121, 1, 0, 0, [])), (20, .return_, 1, (0, 0, 0, 0, []))]
def g_k128 : List (Nat × g_I) := [(0, .aload_n 0, 1, (0, 0, 0, 0, [])), (1, .bipush 7, 2, (0, 0, 7, 0, [])), (3, .iload_n 1, 1, (0, 0, 0, 0, [])), (4, .iadd, 1, (0, 0, 0, 0, [])), (5, .iaload, 1, (0, 0, 0, 0, [])), (6, .ifCond .ne 7, 3, (13, 0, 0, 0, [])), (9, .iconst 1, 1, (0, 0, 1, 0, [])), (10, .goto 4, 3, (14, 0, 0, 0, [])), (13, .iconst 0, 1, (0, 0, 0, 0, [])), (14, .istore_n 2, 1, (0, 0, 0, 0, [])), (15, .iconst 0, 1, (0, 0, 0, 0, [])), (16, .istore_n 3, 1, (0, 0, 0, 0, [])), (17, .iload_n 3, 1, (0, 0, 0, 0, [])), (18, .aload_n 0, 1, (0, 0, 0, 0, [])), (19, .bipush 6, 2, (0, 0, 6, 0, [])), (21, .iaload, 1, (0, 0, 0, 0, [])), (22, .if_icmp .ge 33, 3, (55, 0, 0, 0, [])), (25, .iload_n 2, 1, (0, 0, 0, 0, [])), (26, .ifCond .eq 21, 3, (47, 0, 0, 0, [])), (29, .aload_n 0, 1, (0, 0, 0, 0, [])), (30, .bipush 88, 2, (0, 0, 88, 0, [])), (32, .iconst 3, 1, (0, 0, 3, 0, [])), (33, .iload_n 3, 1, (0, 0, 0, 0, [])), (34, .imul, 1, (0, 0, 0, 0, [])), (35, .iadd, 1, (0, 0, 0, 0, [])), (36, .iconst 1, 1, (0, 0, 1, 0, [])), (37, .iadd, 1, (0, 0, 0, 0, [])), (38, .iaload, 1, (0, 0, 0, 0, [])), (39, .iload_n 1, 1, (0, 0, 0, 0, [])), (40, .if_icmp .eq 7, 3, (47, 0, 0, 0, [])), (43, .iconst 1, 1, (0, 0, 1, 0, [])), (44, .goto 4, 3, (48, 0, 0, 0, [])), (47, .iconst 0, 1, (0, 0, 0, 0, [])), (48, .istore_n 2, 1, (0, 0, 0, 0, [])), (49, .iinc 3 1, 3, (0, 0, 1, 0, [])), (52, .goto (-35), 3, (17, 0, 0, 0, [])), (55, .iload_n 2, 1, (0, 0, 0, 0, [])), (56, .ireturn, 1, (1, 0, 0, 0, []))]
def g_k129 : List (Nat × g_I) := [(0, .aload_n 0, 1, (0, 0, 0, 0, [])), (1, .aload_n 0, 1, (0, 0, 0, 0, [])), (2, .invokevirtual 145, 3, (122, 0, 0, 0, [])), (5, .ldc2_w 149, 3, (0, 0, 0, 500086302066, [])), (8, .lcmp, 1, (0, 0, 0, 0, [])), (9, .ifCond .ne 7, 3, (16, 0, 0, 0, [])), (12, .iconst 1, 1, (0, 0, 1, 0, [])), (13, .goto 4, 3, (17, 0, 0, 0, [])), (16, .iconst 0, 1, (0, 0, 0, 0, [])), (17, .invokevirtual 131, 3, (121, 1, 0, 0, [])), (20, .aload_n 0, 1, (0, 0, 0, 0, [])), (21, .iconst 0, 1, (0, 0, 0, 0, [])), (22, .bipush 8, 2, (0, 0, 8, 0, [])), (24, .invokevirtual 151, 3, (124, 2, 0, 0, [])), (27, .istore_n 1, 1, (0, 0, 0, 0, [])), (28, .aload_n 0, 1, (0, 0, 0, 0, [])), (29, .iconst 0, 1, (0, 0, 0, 0, [])), (30, .bipush 8, 2, (0, 0, 8, 0, [])), (32, .invokevirtual 151, 3, (124, 2, 0, 0, [])), (35, .istore_n 2, 1, (0, 0, 0, 0, [])), (36, .aload_n 0, 1, (0, 0, 0, 0, [])), (37, .iconst 1, 1, (0, 0, 1, 0, [])), (38, .bipush 8, 2, (0, 0, 8, 0, [])), (40, .invokevirtual 151, 3, (124, 2, 0, 0, [])), (43, .istore_n 3, 1, (0, 0, 0, 0, [])), (44, .aload_n 0, 1, (0, 0, 0, 0, [])), (45, .invokevirtual 155, 3, (126, 0, 0, 0, [])), (48, .aload_n 0, 1, (0, 0, 0, 0, [])), (49, .getfield 114, 3, (8, 15, 0, 0, [])), (52, .ifCond .ne 37, 3, (89, 0, 0, 0, [])), (55, .aload_n 0, 1, (0, 0, 0, 0, [])), (56, .getfield 22, 3, (8, 6, 0, 0, [])), (59, .iconst 0, 1, (0, 0, 0, 0, [])), (60, .iload_n 1, 1, (0, 0, 0, 0, [])), (61, .bipush 9, 2, (0, 0, 9, 0, [])), (63, .iload_n 2, 1, (0, 0, 0, 0, [])), (64, .imul, 1, (0, 0, 0, 0, [])), (65, .iadd, 1, (0, 0, 0, 0, [])), (66, .iastore, 1, (0, 0, 0, 0, [])), (67, .aload_n 0, 1, (0, 0, 0, 0, [])), (68, .getfield 22, 3, (8, 6, 0, 0, [])), (71, .iconst 1, 1, (0, 0, 1, 0, [])), (72, .iload_n 3, 1, (0, 0, 0, 0, [])), (73, .iastore, 1, (0, 0, 0, 0, [])), (74, .aload_n 0, 1, (0, 0, 0, 0, [])), (75, .getfield 22, 3, (8, 6, 0, 0, [])), (78, .bipush 7, 2, (0, 0, 7, 0, [])), (80, .iload_n 1, 1, (0, 0, 0, 0, [])), (81, .iadd, 1, (0, 0, 0, 0, [])), (82, .bipush 9, 2, (0, 0, 9, 0, [])), (84, .iload_n 2, 1, (0, 0, 0, 0, [])), (85, .imul, 1, (0, 0, 0, 0, [])), (86, .iadd, 1, (0, 0, 0, 0, [])), (87, .iconst 2, 1, (0, 0, 2, 0, [])), (88, .iastore, 1, (0, 0, 0, 0, [])), (89, .return_, 1, (0, 0, 0, 0, []))]
def g_k130 : List (Nat × g_I) := [(0, .aload_n 0, 1, (0, 0, 0, 0, [])), (1, .iconst 5, 1, (0, 0, 5, 0, [])), (2, .bipush 20, 2, (0, 0, 20, 0, [])), (4, .invokevirtual 158, 3, (127, 2, 0, 0, [])), (7, .aload_n 0, 1, (0, 0, 0, 0, [])), (8, .iconst 0, 1, (0, 0, 0, 0, [])), (9, .bipush 8, 2, (0, 0, 8, 0, [])), (11, .invokevirtual 151, 3, (124, 2, 0, 0, [])), (14, .istore_n 1, 1, (0, 0, 0, 0, [])), (15, .aload_n 0, 1, (0, 0, 0, 0, [])), (16, .invokevirtual 127, 3, (123, 0, 0, 0, [])), (19, .istore_n 2, 1, (0, 0, 0, 0, [])), (20, .aload_n 0, 1, (0, 0, 0, 0, [])), (21, .getfield 114, 3, (8, 15, 0, 0, [])), (24, .ifCond .ne 43, 3, (67, 0, 0, 0, [])), (27, .aload_n 0, 1, (0, 0, 0, 0, [])), (28, .getfield 102, 3, (8, 12, 0, 0, [])), (31, .iconst 3, 1, (0, 0, 3, 0, [])), (32, .if_icmp .ne 35, 3, (67, 0, 0, 0, [])), (35, .iload_n 2, 1, (0, 0, 0, 0, [])), (36, .i2l, 1, (0, 0, 0, 0, [])), (37, .lconst 0, 1, (0, 0, 0, 0, [])), (38, .ldc2_w 81, 3, (0, 0, 0, 8, [])), (41, .invokestatic 66, 3, (107, 3, 0, 0, [])), (44, .ifCond .eq 23, 3, (67, 0, 0, 0, [])), (47, .aload_n 0, 1, (0, 0, 0, 0, [])), (48, .getfield 22, 3, (8, 6, 0, 0, [])), (51, .iconst 0, 1, (0, 0, 0, 0, [])), (52, .iaload, 1, (0, 0, 0, 0, [])), (53, .iload_n 1, 1, (0, 0, 0, 0, [])), (54, .bipush 9, 2, (0, 0, 9, 0, [])), (56, .iload_n 2, 1, (0, 0, 0, 0, [])), (57, .imul, 1, (0, 0, 0, 0, [])), (58, .iadd, 1, (0, 0, 0, 0, [])), (59, .if_icmp .ne 8, 3, (67, 0, 0, 0, [])), (62, .aload_n 0, 1, (0, 0, 0, 0, [])), (63, .iconst 2, 1, (0, 0, 2, 0, [])), (64, .invokevirtual 123, 3, (120, 1, 0, 0, [])), (67, .aload_n 0, 1, (0, 0, 0, 0, [])), (68, .iconst 0, 1, (0, 0, 0, 0, [])), (69, .bipush 8, 2, (0, 0, 8, 0, [])), (71, .invokevirtual 151, 3, (124, 2, 0, 0, [])), (74, .istore_n 2, 1, (0, 0, 0, 0, [])), (75, .aload_n 0, 1, (0, 0, 0, 0, [])), (76, .invokevirtual 155, 3, (126, 0, 0, 0, [])), (79, .aload_n 0, 1, (0, 0, 0, 0, [])), (80, .getfield 114, 3, (8, 15, 0, 0, [])), (83, .ifCond .ne 28, 3, (111, 0, 0, 0, [])), (86, .aload_n 0, 1, (0, 0, 0, 0, [])), (87, .getfield 22, 3, (8, 6, 0, 0, [])), (90, .bipush 7, 2, (0, 0, 7, 0, [])), (92, .iload_n 1, 1, (0, 0, 0, 0, [])), (93, .iadd, 1, (0, 0, 0, 0, [])), (94, .bipush 9, 2, (0, 0, 9, 0, [])), (96, .iload_n 2, 1, (0, 0, 0, 0, [])), (97, .imul, 1, (0, 0, 0, 0, [])), (98, .iadd, 1, (0, 0, 0, 0, [])), (99, .iconst 1, 1, (0, 0, 1, 0, [])), (100, .iastore, 1, (0, 0, 0, 0, [])), (101, .aload_n 0, 1, (0, 0, 0, 0, [])), (102, .getfield 22, 3, (8, 6, 0, 0, [])), (105, .iconst 5, 1, (0, 0, 5, 0, [])), (106, .dup2, 1, (0, 0, 0, 0, [])), (107, .iaload, 1, (0, 0, 0, 0, [])), (108, .iconst 1, 1, (0, 0, 1, 0, [])), (109, .iadd, 1, (0, 0, 0, 0, [])), (110, .iastore, 1, (0, 0, 0, 0, [])), (111, .return_, 1, (0, 0, 0, 0, []))]
def g_k131 : List (Nat × g_I) := [(0, .aload_n 0, 1, (0, 0, 0, 0, [])), (1, .bipush 6, 2, (0, 0, 6, 0, [])), (3, .bipush 8, 2, (0, 0, 8, 0, [])), (5, .invokevirtual 158, 3, (127, 2, 0, 0, [])), (8, .aload_n 0, 1, (0, 0, 0, 0, [])), (9, .invokevirtual 145, 3, (122, 0, 0, 0, [])), (12, .invokestatic 162, 3, (125, 1, 0, 0, [])), (15, .istore_n 1, 1, (0, 0, 0, 0, [])), (16, .aload_n 0, 1, (0, 0, 0, 0, [])), (17, .getfield 114, 3, (8, 15, 0, 0, [])), (20, .ifCond .ne 18, 3, (38, 0, 0, 0, [])), (23, .aload_n 0, 1, (0, 0, 0, 0, [])), (24, .iload_n 1, 1, (0, 0, 0, 0, [])), (25, .ldc 92, 2, (0, 0, -1000000, 0, [])), (27, .if_icmp .eq 7, 3, (34, 0, 0, 0, [])), (30, .iconst 1, 1, (0, 0, 1, 0, [])), (31, .goto 4, 3, (35, 0, 0, 0, [])), (34, .iconst 0, 1, (0, 0, 0, 0, [])), (35, .invokevirtual 131, 3, (121, 1, 0, 0, [])), (38, .aload_n 0, 1, (0, 0, 0, 0, [])), (39, .iconst 0, 1, (0, 0, 0, 0, [])), (40, .bipush 8, 2, (0, 0, 8, 0, [])), (42, .invokevirtual 151, 3, (124, 2, 0, 0, [])), (45, .istore_n 2, 1, (0, 0, 0, 0, [])), (46, .aload_n 0, 1, (0, 0, 0, 0, [])), (47, .invokevirtual 127, 3, (123, 0, 0, 0, [])), (50, .istore_n 3, 1, (0, 0, 0, 0, [])), (51, .aload_n 0, 1, (0, 0, 0, 0, [])), (52, .getfield 114, 3, (8, 15, 0, 0, [])), (55, .ifCond .ne 44, 3, (99, 0, 0, 0, [])), (58, .aload_n 0, 1, (0, 0, 0, 0, [])), (59, .getfield 102, 3, (8, 12, 0, 0, [])), (62, .iconst 3, 1, (0, 0, 3, 0, [])), (63, .if_icmp .ne 36, 3, (99, 0, 0, 0, [])), (66, .iload_n 3, 1, (0, 0, 0, 0, [])), (67, .i2l, 1, (0, 0, 0, 0, [])), (68, .lconst 0, 1, (0, 0, 0, 0, [])), (69, .ldc2_w 81, 3, (0, 0, 0, 8, [])), (72, .invokestatic 66, 3, (107, 3, 0, 0, [])), (75, .ifCond .eq 24, 3, (99, 0, 0, 0, [])), (78, .aload_n 0, 1, (0, 0, 0, 0, [])), (79, .getfield 22, 3, (8, 6, 0, 0, [])), (82, .iload_n 2, 1, (0, 0, 0, 0, [])), (83, .bipush 9, 2, (0, 0, 9, 0, [])), (85, .iload_n 3, 1, (0, 0, 0, 0, [])), (86, .imul, 1, (0, 0, 0, 0, [])), (87, .iadd, 1, (0, 0, 0, 0, [])), (88, .invokestatic 166, 3, (128, 2, 0, 0, [])), (91, .ifCond .ne 8, 3, (99, 0, 0, 0, [])), (94, .aload_n 0, 1, (0, 0, 0, 0, [])), (95, .iconst 2, 1, (0, 0, 2, 0, [])), (96, .invokevirtual 123, 3, (120, 1, 0, 0, [])), (99, .aload_n 0, 1, (0, 0, 0, 0, [])), (100, .iconst 0, 1, (0, 0, 0, 0, [])), (101, .bipush 8, 2, (0, 0, 8, 0, [])), (103, .invokevirtual 151, 3, (124, 2, 0, 0, [])), (106, .istore_n 3, 1, (0, 0, 0, 0, [])), (107, .aload_n 0, 1, (0, 0, 0, 0, [])), (108, .iconst 0, 1, (0, 0, 0, 0, [])), (109, .bipush 99, 2, (0, 0, 99, 0, [])), (111, .invokevirtual 151, 3, (124, 2, 0, 0, [])), (114, .istore 4, 2, (0, 0, 0, 0, [])), (116, .aload_n 0, 1, (0, 0, 0, 0, [])), (117, .invokevirtual 155, 3, (126, 0, 0, 0, [])), (120, .aload_n 0, 1, (0, 0, 0, 0, [])), (121, .getfield 114, 3, (8, 15, 0, 0, [])), (124, .ifCond .ne 62, 3, (186, 0, 0, 0, [])), (127, .bipush 88, 2, (0, 0, 88, 0, [])), (129, .iconst 3, 1, (0, 0, 3, 0, [])), (130, .aload_n 0, 1, (0, 0, 0, 0, [])), (131, .getfield 22, 3, (8, 6, 0, 0, [])), (134, .bipush 6, 2, (0, 0, 6, 0, [])), (136, .iaload, 1, (0, 0, 0, 0, [])), (137, .imul, 1, (0, 0, 0, 0, [])), (138, .iadd, 1, (0, 0, 0, 0, [])), (139, .istore 5, 2, (0, 0, 0, 0, [])), (141, .aload_n 0, 1, (0, 0, 0, 0, [])), (142, .getfield 22, 3, (8, 6, 0, 0, [])), (145, .iload 5, 2, (0, 0, 0, 0, [])), (147, .iload_n 1, 1, (0, 0, 0, 0, [])), (148, .iastore, 1, (0, 0, 0, 0, [])), (149, .aload_n 0, 1, (0, 0, 0, 0, [])), (150, .getfield 22, 3, (8, 6, 0, 0, [])), (153, .iload 5, 2, (0, 0, 0, 0, [])), (155, .iconst 1, 1, (0, 0, 1, 0, [])), (156, .iadd, 1, (0, 0, 0, 0, [])), (157, .iload_n 2, 1, (0, 0, 0, 0, [])), (158, .bipush 9, 2, (0, 0, 9, 0, [])), (160, .iload_n 3, 1, (0, 0, 0, 0, [])), (161, .imul, 1, (0, 0, 0, 0, [])), (162, .iadd, 1, (0, 0, 0, 0, [])), (163, .iastore, 1, (0, 0, 0, 0, [])), (164, .aload_n 0, 1, (0, 0, 0, 0, [])), (165, .getfield 22, 3, (8, 6, 0, 0, [])), (168, .iload 5, 2, (0, 0, 0, 0, [])), (170, .iconst 2, 1, (0, 0, 2, 0, [])), (171, .iadd, 1, (0, 0, 0, 0, [])), (172, .iload 4, 2, (0, 0, 0, 0, [])), (174, .iastore, 1, (0, 0, 0, 0, [])), (175, .aload_n 0, 1, (0, 0, 0, 0, [])), (176, .getfield 22, 3, (8, 6, 0, 0, [])), (179, .bipush 6, 2, (0, 0, 6, 0, [])), (181, .dup2, 1, (0, 0, 0, 0, [])), (182, .iaload, 1, (0, 0, 0, 0, [])), (183, .iconst 1, 1, (0, 0, 1, 0, [])), (184, .iadd, 1, (0, 0, 0, 0, [])), (185, .iastore, 1, (0, 0, 0, 0, [])), (186, .return_, 1, (0, 0, 0, 0, []))]
def g_k132 : List (Nat × g_I) := [(0, .aload_n 0, 1, (0, 0, 0, 0, [])), (1, .iconst 0, 1, (0, 0, 0, 0, [])), (2, .putfield 56, 3, (8, 0, 0, 0, [])), (5, .aload_n 0, 1, (0, 0, 0, 0, [])), (6, .invokevirtual 170, 3, (119, 0, 0, 0, [])), (9, .iconst 0, 1, (0, 0, 0, 0, [])), (10, .istore_n 1, 1, (0, 0, 0, 0, [])), (11, .iload_n 1, 1, (0, 0, 0, 0, [])), (12, .sipush 185, 3, (0, 0, 185, 0, [])), (15, .if_icmp .ge 16, 3, (31, 0, 0, 0, [])), (18, .aload_n 0, 1, (0, 0, 0, 0, [])), (19, .getfield 22, 3, (8, 6, 0, 0, [])), (22, .iload_n 1, 1, (0, 0, 0, 0, [])), (23, .iconst 0, 1, (0, 0, 0, 0, [])), (24, .iastore, 1, (0, 0, 0, 0, [])), (25, .iinc 1 1, 3, (0, 0, 1, 0, [])), (28, .goto (-17), 3, (11, 0, 0, 0, [])), (31, .aload_n 0, 1, (0, 0, 0, 0, [])), (32, .getfield 22, 3, (8, 6, 0, 0, [])), (35, .iconst 4, 1, (0, 0, 4, 0, [])), (36, .iconst 1, 1, (0, 0, 1, 0, [])), (37, .iastore, 1, (0, 0, 0, 0, [])), (38, .aload_n 0, 1, (0, 0, 0, 0, [])), (39, .invokevirtual 173, 3, (129, 0, 0, 0, [])), (42, .aload_n 0, 1, (0, 0, 0, 0, [])), (43, .invokevirtual 145, 3, (122, 0, 0, 0, [])), (46, .ldc2_w 176, 3, (0, 0, 0, 2002873452, [])), (49, .lcmp, 1, (0, 0, 0, 0, [])), (50, .ifCond .ne 10, 3, (60, 0, 0, 0, [])), (53, .aload_n 0, 1, (0, 0, 0, 0, [])), (54, .invokevirtual 178, 3, (130, 0, 0, 0, [])), (57, .goto (-15), 3, (42, 0, 0, 0, [])), (60, .aload_n 0, 1, (0, 0, 0, 0, [])), (61, .invokevirtual 145, 3, (122, 0, 0, 0, [])), (64, .ldc2_w 181, 3, (0, 0, 0, 1936224112, [])), (67, .lcmp, 1, (0, 0, 0, 0, [])), (68, .ifCond .ne 10, 3, (78, 0, 0, 0, [])), (71, .aload_n 0, 1, (0, 0, 0, 0, [])), (72, .invokevirtual 183, 3, (131, 0, 0, 0, [])), (75, .goto (-15), 3, (60, 0, 0, 0, [])), (78, .aload_n 0, 1, (0, 0, 0, 0, [])), (79, .getfield 114, 3, (8, 15, 0, 0, [])), (82, .ifCond .ne 16, 3, (98, 0, 0, 0, [])), (85, .aload_n 0, 1, (0, 0, 0, 0, [])), (86, .getfield 102, 3, (8, 12, 0, 0, [])), (89, .iconst 1, 1, (0, 0, 1, 0, [])), (90, .if_icmp .eq 8, 3, (98, 0, 0, 0, [])), (93, .aload_n 0, 1, (0, 0, 0, 0, [])), (94, .iconst 1, 1, (0, 0, 1, 0, [])), (95, .invokevirtual 123, 3, (120, 1, 0, 0, [])), (98, .aload_n 0, 1, (0, 0, 0, 0, [])), (99, .getfield 114, 3, (8, 15, 0, 0, [])), (102, .ifCond .le 19, 3, (121, 0, 0, 0, [])), (105, .aload_n 0, 1, (0, 0, 0, 0, [])), (106, .aload_n 0, 1, (0, 0, 0, 0, [])), (107, .getfield 114, 3, (8, 15, 0, 0, [])), (110, .putfield 186, 3, (8, 9, 0, 0, [])), (113, .ldc 189, 2, (0, 0, -1000100, 0, [])), (115, .aload_n 0, 1, (0, 0, 0, 0, [])), (116, .getfield 120, 3, (8, 16, 0, 0, [])), (119, .isub, 1, (0, 0, 0, 0, [])), (120, .ireturn, 1, (0, 0, 0, 0, [])), (121, .iconst 0, 1, (0, 0, 0, 0, [])), (122, .istore_n 1, 1, (0, 0, 0, 0, [])), (123, .iload_n 1, 1, (0, 0, 0, 0, [])), (124, .sipush 185, 3, (0, 0, 185, 0, [])), (127, .if_icmp .ge 21, 3, (148, 0, 0, 0, [])), (130, .aload_n 0, 1, (0, 0, 0, 0, [])), (131, .getfield 19, 3, (8, 5, 0, 0, [])), (134, .iload_n 1, 1, (0, 0, 0, 0, [])), (135, .aload_n 0, 1, (0, 0, 0, 0, [])), (136, .getfield 22, 3, (8, 6, 0, 0, [])), (139, .iload_n 1, 1, (0, 0, 0, 0, [])), (140, .iaload, 1, (0, 0, 0, 0, [])), (141, .iastore, 1, (0, 0, 0, 0, [])), (142, .iinc 1 1, 3, (0, 0, 1, 0, [])), (145, .goto (-22), 3, (123, 0, 0, 0, [])), (148, .aload_n 0, 1, (0, 0, 0, 0, [])), (149, .getfield 19, 3, (8, 5, 0, 0, [])), (152, .bipush 6, 2, (0, 0, 6, 0, [])), (154, .iaload, 1, (0, 0, 0, 0, [])), (155, .ireturn, 1, (0, 0, 0, 0, []))]
def g_k133 : List (Nat × g_I) := [(0, .aload_n 0, 1, (0, 0, 0, 0, [])), (1, .iconst 0, 1, (0, 0, 0, 0, [])), (2, .putfield 56, 3, (8, 0, 0, 0, [])), (5, .aload_n 0, 1, (0, 0, 0, 0, [])), (6, .getfield 186, 3, (8, 9, 0, 0, [])), (9, .ireturn, 1, (0, 0, 0, 0, []))]
def g_k134 : List (Nat × g_I) := [(0, .aload_n 0, 1, (0, 0, 0, 0, [])), (1, .getfield 19, 3, (8, 5, 0, 0, [])), (4, .iconst 4, 1, (0, 0, 4, 0, [])), (5, .iaload, 1, (0, 0, 0, 0, [])), (6, .ifCond .le 7, 3, (13, 0, 0, 0, [])), (9, .iconst 1, 1, (0, 0, 1, 0, [])), (10, .goto 4, 3, (14, 0, 0, 0, [])), (13, .iconst 0, 1, (0, 0, 0, 0, [])), (14, .ireturn, 1, (1, 0, 0, 0, []))]
def g_k135 : List (Nat × g_I) := [(0, .iload_n 0, 1, (0, 0, 0, 0, [])), (1, .i2l, 1, (0, 0, 0, 0, [])), (2, .lconst 0, 1, (0, 0, 0, 0, [])), (3, .ldc2_w 190, 3, (0, 0, 0, 72, [])), (6, .invokestatic 66, 3, (107, 3, 0, 0, [])), (9, .ireturn, 1, (1, 0, 0, 0, []))]
def g_k136 : List (Nat × g_I) := [(0, .iload_n 0, 1, (0, 0, 0, 0, [])), (1, .i2l, 1, (0, 0, 0, 0, [])), (2, .lconst 0, 1, (0, 0, 0, 0, [])), (3, .ldc2_w 192, 3, (0, 0, 0, 80, [])), (6, .invokestatic 66, 3, (107, 3, 0, 0, [])), (9, .ireturn, 1, (1, 0, 0, 0, []))]
def g_k137 : List (Nat × g_I) := [(0, .iload_n 0, 1, (0, 0, 0, 0, [])), (1, .i2l, 1, (0, 0, 0, 0, [])), (2, .ldc2_w 194, 3, (0, 0, 0, -3, [])), (5, .ldc2_w 196, 3, (0, 0, 0, 3, [])), (8, .invokestatic 66, 3, (107, 3, 0, 0, [])), (11, .ireturn, 1, (1, 0, 0, 0, []))]
def g_k138 : List (Nat × g_I) := [(0, .iload_n 1, 1, (0, 0, 0, 0, [])), (1, .i2l, 1, (0, 0, 0, 0, [])), (2, .lconst 0, 1, (0, 0, 0, 0, [])), (3, .aload_n 0, 1, (0, 0, 0, 0, [])), (4, .getfield 19, 3, (8, 5, 0, 0, [])), (7, .bipush 6, 2, (0, 0, 6, 0, [])), (9, .iaload, 1, (0, 0, 0, 0, [])), (10, .iconst 1, 1, (0, 0, 1, 0, [])), (11, .isub, 1, (0, 0, 0, 0, [])), (12, .i2l, 1, (0, 0, 0, 0, [])), (13, .invokestatic 66, 3, (107, 3, 0, 0, [])), (16, .ireturn, 1, (1, 0, 0, 0, []))]
def g_k139 : List (Nat × g_I) := [(0, .aload_n 0, 1, (0, 0, 0, 0, [])), (1, .iconst 0, 1, (0, 0, 0, 0, [])), (2, .putfield 56, 3, (8, 0, 0, 0, [])), (5, .aload_n 0, 1, (0, 0, 0, 0, [])), (6, .invokevirtual 198, 3, (134, 0, 0, 0, [])), (9, .ifCond .ne 6, 3, (15, 0, 0, 0, [])), (12, .ldc 202, 2, (0, 0, -1000002, 0, [])), (14, .ireturn, 1, (0, 0, 0, 0, [])), (15, .iload_n 1, 1, (0, 0, 0, 0, [])), (16, .i2l, 1, (0, 0, 0, 0, [])), (17, .lconst 1, 1, (0, 0, 0, 1, [])), (18, .ldc2_w 203, 3, (0, 0, 0, 6, [])), (21, .invokestatic 66, 3, (107, 3, 0, 0, [])), (24, .ifCond .ne 6, 3, (30, 0, 0, 0, [])), (27, .ldc 76, 2, (0, 0, -1000001, 0, [])), (29, .ireturn, 1, (0, 0, 0, 0, [])), (30, .aload_n 0, 1, (0, 0, 0, 0, [])), (31, .getfield 19, 3, (8, 5, 0, 0, [])), (34, .iconst 4, 1, (0, 0, 4, 0, [])), (35, .iaload, 1, (0, 0, 0, 0, [])), (36, .istore_n 2, 1, (0, 0, 0, 0, [])), (37, .aload_n 0, 1, (0, 0, 0, 0, [])), (38, .getfield 19, 3, (8, 5, 0, 0, [])), (41, .iconst 4, 1, (0, 0, 4, 0, [])), (42, .iload_n 1, 1, (0, 0, 0, 0, [])), (43, .iastore, 1, (0, 0, 0, 0, [])), (44, .iload_n 2, 1, (0, 0, 0, 0, [])), (45, .ireturn, 1, (0, 0, 0, 0, []))]
def g_k140 : List (Nat × g_I) := [(0, .aload_n 0, 1, (0, 0, 0, 0, [])), (1, .iconst 0, 1, (0, 0, 0, 0, [])), (2, .putfield 56, 3, (8, 0, 0, 0, [])), (5, .aload_n 0, 1, (0, 0, 0, 0, [])), (6, .invokevirtual 198, 3, (134, 0, 0, 0, [])), (9, .ifCond .ne 6, 3, (15, 0, 0, 0, [])), (12, .ldc 202, 2, (0, 0, -1000002, 0, [])), (14, .ireturn, 1, (0, 0, 0, 0, [])), (15, .iload_n 1, 1, (0, 0, 0, 0, [])), (16, .invokestatic 205, 3, (137, 1, 0, 0, [])), (19, .ifCond .eq 10, 3, (29, 0, 0, 0, [])), (22, .iload_n 2, 1, (0, 0, 0, 0, [])), (23, .invokestatic 205, 3, (137, 1, 0, 0, [])), (26, .ifCond .ne 6, 3, (32, 0, 0, 0, [])), (29, .ldc 76, 2, (0, 0, -1000001, 0, [])), (31, .ireturn, 1, (0, 0, 0, 0, [])), (32, .aload_n 0, 1, (0, 0, 0, 0, [])), (33, .getfield 19, 3, (8, 5, 0, 0, [])), (36, .iconst 2, 1, (0, 0, 2, 0, [])), (37, .iload_n 1, 1, (0, 0, 0, 0, [])), (38, .iastore, 1, (0, 0, 0, 0, [])), (39, .aload_n 0, 1, (0, 0, 0, 0, [])), (40, .getfield 19, 3, (8, 5, 0, 0, [])), (43, .iconst 3, 1, (0, 0, 3, 0, [])), (44, .iload_n 2, 1, (0, 0, 0, 0, [])), (45, .iastore, 1, (0, 0, 0, 0, [])), (46, .iconst 1, 1, (0, 0, 1, 0, [])), (47, .ireturn, 1, (0, 0, 0, 0, []))]
def g_k141 : List (Nat × g_I) := [(0, .aload_n 0, 1, (0, 0, 0, 0, [])), (1, .iconst 0, 1, (0, 0, 0, 0, [])), (2, .putfield 56, 3, (8, 0, 0, 0, [])), (5, .aload_n 0, 1, (0, 0, 0, 0, [])), (6, .invokevirtual 198, 3, (134, 0, 0, 0, [])), (9, .ifCond .ne 6, 3, (15, 0, 0, 0, [])), (12, .ldc 202, 2, (0, 0, -1000002, 0, [])), (14, .ireturn, 1, (0, 0, 0, 0, [])), (15, .iload_n 1, 1, (0, 0, 0, 0, [])), (16, .invokestatic 208, 3, (135, 1, 0, 0, [])), (19, .ifCond .eq 13, 3, (32, 0, 0, 0, [])), (22, .iload_n 2, 1, (0, 0, 0, 0, [])), (23, .i2l, 1, (0, 0, 0, 0, [])), (24, .lconst 0, 1, (0, 0, 0, 0, [])), (25, .lconst 1, 1, (0, 0, 0, 1, [])), (26, .invokestatic 66, 3, (107, 3, 0, 0, [])), (29, .ifCond .ne 6, 3, (35, 0, 0, 0, [])), (32, .ldc 76, 2, (0, 0, -1000001, 0, [])), (34, .ireturn, 1, (0, 0, 0, 0, [])), (35, .aload_n 0, 1, (0, 0, 0, 0, [])), (36, .getfield 19, 3, (8, 5, 0, 0, [])), (39, .bipush 112, 2, (0, 0, 112, 0, [])), (41, .iload_n 1, 1, (0, 0, 0, 0, [])), (42, .iadd, 1, (0, 0, 0, 0, [])), (43, .iaload, 1, (0, 0, 0, 0, [])), (44, .istore_n 3, 1, (0, 0, 0, 0, [])), (45, .aload_n 0, 1, (0, 0, 0, 0, [])), (46, .getfield 19, 3, (8, 5, 0, 0, [])), (49, .bipush 112, 2, (0, 0, 112, 0, [])), (51, .iload_n 1, 1, (0, 0, 0, 0, [])), (52, .iadd, 1, (0, 0, 0, 0, [])), (53, .iload_n 2, 1, (0, 0, 0, 0, [])), (54, .iastore, 1, (0, 0, 0, 0, [])), (55, .iload_n 3, 1, (0, 0, 0, 0, [])), (56, .ireturn, 1, (0, 0, 0, 0, []))]
def g_k142 : List (Nat × g_I) := [(0, .iconst 0, 1, (0, 0, 0, 0, [])), (1, .istore_n 1, 1, (0, 0, 0, 0, [])), (2, .iconst 0, 1, (0, 0, 0, 0, [])), (3, .istore_n 2, 1, (0, 0, 0, 0, [])), (4, .iload_n 2, 1, (0, 0, 0, 0, [])), (5, .bipush 72, 2, (0, 0, 72, 0, [])), (7, .if_icmp .gt 21, 3, (28, 0, 0, 0, [])), (10, .iload_n 1, 1, (0, 0, 0, 0, [])), (11, .aload_n 0, 1, (0, 0, 0, 0, [])), (12, .getfield 19, 3, (8, 5, 0, 0, [])), (15, .bipush 112, 2, (0, 0, 112, 0, [])), (17, .iload_n 2, 1, (0, 0, 0, 0, [])), (18, .iadd, 1, (0, 0, 0, 0, [])), (19, .iaload, 1, (0, 0, 0, 0, [])), (20, .iadd, 1, (0, 0, 0, 0, [])), (21, .istore_n 1, 1, (0, 0, 0, 0, [])), (22, .iinc 2 1, 3, (0, 0, 1, 0, [])), (25, .goto (-21), 3, (4, 0, 0, 0, [])), (28, .iload_n 1, 1, (0, 0, 0, 0, [])), (29, .ireturn, 1, (0, 0, 0, 0, []))]
def g_k143 : List (Nat × g_I) := [(0, .aload_n 0, 1, (0, 0, 0, 0, [])), (1, .iconst 0, 1, (0, 0, 0, 0, [])), (2, .putfield 56, 3, (8, 0, 0, 0, [])), (5, .aload_n 0, 1, (0, 0, 0, 0, [])), (6, .invokevirtual 198, 3, (134, 0, 0, 0, [])), (9, .ifCond .ne 6, 3, (15, 0, 0, 0, [])), (12, .ldc 202, 2, (0, 0, -1000002, 0, [])), (14, .ireturn, 1, (0, 0, 0, 0, [])), (15, .iload_n 1, 1, (0, 0, 0, 0, [])), (16, .i2l, 1, (0, 0, 0, 0, [])), (17, .lconst 1, 1, (0, 0, 0, 1, [])), (18, .ldc2_w 211, 3, (0, 0, 0, 999999, [])), (21, .invokestatic 66, 3, (107, 3, 0, 0, [])), (24, .ifCond .eq 15, 3, (39, 0, 0, 0, [])), (27, .iload_n 2, 1, (0, 0, 0, 0, [])), (28, .i2l, 1, (0, 0, 0, 0, [])), (29, .lconst 0, 1, (0, 0, 0, 0, [])), (30, .ldc2_w 213, 3, (0, 0, 0, 100, [])), (33, .invokestatic 66, 3, (107, 3, 0, 0, [])), (36, .ifCond .ne 6, 3, (42, 0, 0, 0, [])), (39, .ldc 76, 2, (0, 0, -1000001, 0, [])), (41, .ireturn, 1, (0, 0, 0, 0, [])), (42, .iload_n 1, 1, (0, 0, 0, 0, [])), (43, .i2l, 1, (0, 0, 0, 0, [])), (44, .lstore_n 3, 1, (0, 0, 0, 0, [])), (45, .iconst 0, 1, (0, 0, 0, 0, [])), (46, .istore 5, 2, (0, 0, 0, 0, [])), (48, .iload 5, 2, (0, 0, 0, 0, [])), (50, .bipush 72, 2, (0, 0, 72, 0, [])), (52, .if_icmp .gt 45, 3, (97, 0, 0, 0, [])), (55, .lload_n 3, 1, (0, 0, 0, 0, [])), (56, .ldc2_w 215, 3, (0, 0, 0, 16807, [])), (59, .lmul, 1, (0, 0, 0, 0, [])), (60, .ldc2_w 217, 3, (0, 0, 0, 2147483647, [])), (63, .lrem, 1, (0, 0, 0, 0, [])), (64, .lstore_n 3, 1, (0, 0, 0, 0, [])), (65, .aload_n 0, 1, (0, 0, 0, 0, [])), (66, .getfield 19, 3, (8, 5, 0, 0, [])), (69, .bipush 112, 2, (0, 0, 112, 0, [])), (71, .iload 5, 2, (0, 0, 0, 0, [])), (73, .iadd, 1, (0, 0, 0, 0, [])), (74, .lload_n 3, 1, (0, 0, 0, 0, [])), (75, .ldc2_w 213, 3, (0, 0, 0, 100, [])), (78, .lrem, 1, (0, 0, 0, 0, [])), (79, .iload_n 2, 1, (0, 0, 0, 0, [])), (80, .i2l, 1, (0, 0, 0, 0, [])), (81, .lcmp, 1, (0, 0, 0, 0, [])), (82, .ifCond .ge 7, 3, (89, 0, 0, 0, [])), (85, .iconst 1, 1, (0, 0, 1, 0, [])), (86, .goto 4, 3, (90, 0, 0, 0, [])), (89, .iconst 0, 1, (0, 0, 0, 0, [])), (90, .iastore, 1, (0, 0, 0, 0, [])), (91, .iinc 5 1, 3, (0, 0, 1, 0, [])), (94, .goto (-46), 3, (48, 0, 0, 0, [])), (97, .aload_n 0, 1, (0, 0, 0, 0, [])), (98, .invokevirtual 219, 3, (142, 0, 0, 0, [])), (101, .ireturn, 1, (0, 0, 0, 0, []))]
def g_k144 : List (Nat × g_I) := [(0, .iload_n 0, 1, (0, 0, 0, 0, [])), (1, .ifCond .ne 7, 3, (8, 0, 0, 0, [])), (4, .iconst 1, 1, (0, 0, 1, 0, [])), (5, .goto 22, 3, (27, 0, 0, 0, [])), (8, .iload_n 0, 1, (0, 0, 0, 0, [])), (9, .iconst 1, 1, (0, 0, 1, 0, [])), (10, .if_icmp .ne 7, 3, (17, 0, 0, 0, [])), (13, .iconst 4, 1, (0, 0, 4, 0, [])), (14, .goto 13, 3, (27, 0, 0, 0, [])), (17, .iload_n 0, 1, (0, 0, 0, 0, [])), (18, .iconst 4, 1, (0, 0, 4, 0, [])), (19, .if_icmp .ne 7, 3, (26, 0, 0, 0, [])), (22, .iconst 5, 1, (0, 0, 5, 0, [])), (23, .goto 4, 3, (27, 0, 0, 0, [])), (26, .iload_n 0, 1, (0, 0, 0, 0, [])), (27, .ireturn, 1, (0, 0, 0, 0, []))]
def g_k145 : List (Nat × g_I) := [(0, .aload_n 0, 1, (0, 0, 0, 0, [])), (1, .iconst 0, 1, (0, 0, 0, 0, [])), (2, .putfield 56, 3, (8, 0, 0, 0, [])), (5, .aload_n 0, 1, (0, 0, 0, 0, [])), (6, .invokevirtual 198, 3, (134, 0, 0, 0, [])), (9, .ifCond .ne 6, 3, (15, 0, 0, 0, [])), (12, .ldc 202, 2, (0, 0, -1000002, 0, [])), (14, .ireturn, 1, (0, 0, 0, 0, [])), (15, .iload_n 1, 1, (0, 0, 0, 0, [])), (16, .i2l, 1, (0, 0, 0, 0, [])), (17, .lconst 0, 1, (0, 0, 0, 0, [])), (18, .ldc2_w 222, 3, (0, 0, 0, 4, [])), (21, .invokestatic 66, 3, (107, 3, 0, 0, [])), (24, .ifCond .eq 33, 3, (57, 0, 0, 0, [])), (27, .iload_n 2, 1, (0, 0, 0, 0, [])), (28, .invokestatic 224, 3, (136, 1, 0, 0, [])), (31, .ifCond .eq 26, 3, (57, 0, 0, 0, [])), (34, .aload_n 0, 1, (0, 0, 0, 0, [])), (35, .getfield 19, 3, (8, 5, 0, 0, [])), (38, .iload_n 2, 1, (0, 0, 0, 0, [])), (39, .invokestatic 166, 3, (128, 2, 0, 0, [])), (42, .ifCond .eq 15, 3, (57, 0, 0, 0, [])), (45, .iload_n 3, 1, (0, 0, 0, 0, [])), (46, .i2l, 1, (0, 0, 0, 0, [])), (47, .lconst 0, 1, (0, 0, 0, 0, [])), (48, .ldc2_w 227, 3, (0, 0, 0, 99, [])), (51, .invokestatic 66, 3, (107, 3, 0, 0, [])), (54, .ifCond .ne 6, 3, (60, 0, 0, 0, [])), (57, .ldc 76, 2, (0, 0, -1000001, 0, [])), (59, .ireturn, 1, (0, 0, 0, 0, [])), (60, .aload_n 0, 1, (0, 0, 0, 0, [])), (61, .getfield 19, 3, (8, 5, 0, 0, [])), (64, .bipush 6, 2, (0, 0, 6, 0, [])), (66, .iaload, 1, (0, 0, 0, 0, [])), (67, .bipush 8, 2, (0, 0, 8, 0, [])), (69, .if_icmp .ne 6, 3, (75, 0, 0, 0, [])), (72, .ldc 86, 2, (0, 0, -1000003, 0, [])), (74, .ireturn, 1, (0, 0, 0, 0, [])), (75, .bipush 88, 2, (0, 0, 88, 0, [])), (77, .iconst 3, 1, (0, 0, 3, 0, [])), (78, .aload_n 0, 1, (0, 0, 0, 0, [])), (79, .getfield 19, 3, (8, 5, 0, 0, [])), (82, .bipush 6, 2, (0, 0, 6, 0, [])), (84, .iaload, 1, (0, 0, 0, 0, [])), (85, .imul, 1, (0, 0, 0, 0, [])), (86, .iadd, 1, (0, 0, 0, 0, [])), (87, .istore 4, 2, (0, 0, 0, 0, [])), (89, .aload_n 0, 1, (0, 0, 0, 0, [])), (90, .getfield 19, 3, (8, 5, 0, 0, [])), (93, .iload 4, 2, (0, 0, 0, 0, [])), (95, .iload_n 1, 1, (0, 0, 0, 0, [])), (96, .invokestatic 229, 3, (144, 1, 0, 0, [])), (99, .iastore, 1, (0, 0, 0, 0, [])), (100, .aload_n 0, 1, (0, 0, 0, 0, [])), (101, .getfield 19, 3, (8, 5, 0, 0, [])), (104, .iload 4, 2, (0, 0, 0, 0, [])), (106, .iconst 1, 1, (0, 0, 1, 0, [])), (107, .iadd, 1, (0, 0, 0, 0, [])), (108, .iload_n 2, 1, (0, 0, 0, 0, [])), (109, .iastore, 1, (0, 0, 0, 0, [])), (110, .aload_n 0, 1, (0, 0, 0, 0, [])), (111, .getfield 19, 3, (8, 5, 0, 0, [])), (114, .iload 4, 2, (0, 0, 0, 0, [])), (116, .iconst 2, 1, (0, 0, 2, 0, [])), (117, .iadd, 1, (0, 0, 0, 0, [])), (118, .iload_n 3, 1, (0, 0, 0, 0, [])), (119, .iastore, 1, (0, 0, 0, 0, [])), (120, .aload_n 0, 1, (0, 0, 0, 0, [])), (121, .getfield 19, 3, (8, 5, 0, 0, [])), (124, .bipush 6, 2, (0, 0, 6, 0, [])), (126, .dup2, 1, (0, 0, 0, 0, [])), (127, .iaload, 1, (0, 0, 0, 0, [])), (128, .iconst 1, 1, (0, 0, 1, 0, [])), (129, .iadd, 1, (0, 0, 0, 0, [])), (130, .iastore, 1, (0, 0, 0, 0, [])), (131, .aload_n 0, 1, (0, 0, 0, 0, [])), (132, .getfield 19, 3, (8, 5, 0, 0, [])), (135, .bipush 6, 2, (0, 0, 6, 0, [])), (137, .iaload, 1, (0, 0, 0, 0, [])), (138, .iconst 1, 1, (0, 0, 1, 0, [])), (139, .isub, 1, (0, 0, 0, 0, [])), (140, .ireturn, 1, (0, 0, 0, 0, []))]
def g_k146 : List (Nat × g_I) := [(0, .aload_n 0, 1, (0, 0, 0, 0, [])), (1, .iconst 0, 1, (0, 0, 0, 0, [])), (2, .putfield 56, 3, (8, 0, 0, 0, [])), (5, .aload_n 0, 1, (0, 0, 0, 0, [])), (6, .getfield 19, 3, (8, 5, 0, 0, [])), (9, .bipush 6, 2, (0, 0, 6, 0, [])), (11, .iaload, 1, (0, 0, 0, 0, [])), (12, .ifCond .ne 6, 3, (18, 0, 0, 0, [])), (15, .ldc 202, 2, (0, 0, -1000002, 0, [])), (17, .ireturn, 1, (0, 0, 0, 0, [])), (18, .aload_n 0, 1, (0, 0, 0, 0, [])), (19, .getfield 19, 3, (8, 5, 0, 0, [])), (22, .bipush 6, 2, (0, 0, 6, 0, [])), (24, .dup2, 1, (0, 0, 0, 0, [])), (25, .iaload, 1, (0, 0, 0, 0, [])), (26, .iconst 1, 1, (0, 0, 1, 0, [])), (27, .isub, 1, (0, 0, 0, 0, [])), (28, .iastore, 1, (0, 0, 0, 0, [])), (29, .aload_n 0, 1, (0, 0, 0, 0, [])), (30, .getfield 19, 3, (8, 5, 0, 0, [])), (33, .bipush 6, 2, (0, 0, 6, 0, [])), (35, .iaload, 1, (0, 0, 0, 0, [])), (36, .ireturn, 1, (0, 0, 0, 0, []))]
def g_k147 : List (Nat × g_I) := [(0, .iload_n 0, 1, (0, 0, 0, 0, [])), (1, .ifCond .ge 8, 3, (9, 0, 0, 0, [])), (4, .iload_n 0, 1, (0, 0, 0, 0, [])), (5, .ineg, 1, (0, 0, 0, 0, [])), (6, .goto 4, 3, (10, 0, 0, 0, [])), (9, .iload_n 0, 1, (0, 0, 0, 0, [])), (10, .ireturn, 1, (0, 0, 0, 0, []))]
def g_k148 : List (Nat × g_I) := [(0, .iconst 0, 1, (0, 0, 0, 0, [])), (1, .istore 5, 2, (0, 0, 0, 0, [])), (3, .iload 5, 2, (0, 0, 0, 0, [])), (5, .bipush 81, 2, (0, 0, 81, 0, [])), (7, .if_icmp .ge 32, 3, (39, 0, 0, 0, [])), (10, .aload_n 0, 1, (0, 0, 0, 0, [])), (11, .getfield 28, 3, (8, 17, 0, 0, [])), (14, .iload 5, 2, (0, 0, 0, 0, [])), (16, .iload 5, 2, (0, 0, 0, 0, [])), (18, .aload_n 0, 1, (0, 0, 0, 0, [])), (19, .getfield 19, 3, (8, 5, 0, 0, [])), (22, .iconst 0, 1, (0, 0, 0, 0, [])), (23, .iaload, 1, (0, 0, 0, 0, [])), (24, .if_icmp .ne 7, 3, (31, 0, 0, 0, [])), (27, .iconst 1, 1, (0, 0, 1, 0, [])), (28, .goto 4, 3, (32, 0, 0, 0, [])), (31, .iconst 0, 1, (0, 0, 0, 0, [])), (32, .bastore, 1, (0, 0, 0, 0, [])), (33, .iinc 5 1, 3, (0, 0, 1, 0, [])), (36, .goto (-33), 3, (3, 0, 0, 0, [])), (39, .iload_n 1, 1, (0, 0, 0, 0, [])), (40, .bipush 36, 2, (0, 0, 36, 0, [])), (42, .isub, 1, (0, 0, 0, 0, [])), (43, .aload_n 0, 1, (0, 0, 0, 0, [])), (44, .getfield 19, 3, (8, 5, 0, 0, [])), (47, .iconst 1, 1, (0, 0, 1, 0, [])), (48, .iaload, 1, (0, 0, 0, 0, [])), (49, .imul, 1, (0, 0, 0, 0, [])), (50, .bipush 36, 2, (0, 0, 36, 0, [])), (52, .idiv, 1, (0, 0, 0, 0, [])), (53, .iload_n 3, 1, (0, 0, 0, 0, [])), (54, .iadd, 1, (0, 0, 0, 0, [])), (55, .istore 5, 2, (0, 0, 0, 0, [])), (57, .iload_n 2, 1, (0, 0, 0, 0, [])), (58, .iload 4, 2, (0, 0, 0, 0, [])), (60, .iadd, 1, (0, 0, 0, 0, [])), (61, .istore 6, 2, (0, 0, 0, 0, [])), (63, .iload 5, 2, (0, 0, 0, 0, [])), (65, .invokestatic 232, 3, (147, 1, 0, 0, [])), (68, .iload 6, 2, (0, 0, 0, 0, [])), (70, .invokestatic 232, 3, (147, 1, 0, 0, [])), (73, .if_icmp .le 11, 3, (84, 0, 0, 0, [])), (76, .iload 5, 2, (0, 0, 0, 0, [])), (78, .invokestatic 232, 3, (147, 1, 0, 0, [])), (81, .goto 8, 3, (89, 0, 0, 0, [])), (84, .iload 6, 2, (0, 0, 0, 0, [])), (86, .invokestatic 232, 3, (147, 1, 0, 0, [])), (89, .istore 7, 2, (0, 0, 0, 0, [])), (91, .iconst 1, 1, (0, 0, 1, 0, [])), (92, .istore 8, 2, (0, 0, 0, 0, [])), (94, .iload 8, 2, (0, 0, 0, 0, [])), (96, .iload 7, 2, (0, 0, 0, 0, [])), (98, .if_icmp .gt 110, 3, (208, 0, 0, 0, [])), (101, .aload_n 0, 1, (0, 0, 0, 0, [])), (102, .getfield 19, 3, (8, 5, 0, 0, [])), (105, .iconst 0, 1, (0, 0, 0, 0, [])), (106, .iaload, 1, (0, 0, 0, 0, [])), (107, .bipush 9, 2, (0, 0, 9, 0, [])), (109, .irem, 1, (0, 0, 0, 0, [])), (110, .iload 8, 2, (0, 0, 0, 0, [])), (112, .iload 5, 2, (0, 0, 0, 0, [])), (114, .imul, 1, (0, 0, 0, 0, [])), (115, .iload 7, 2, (0, 0, 0, 0, [])), (117, .idiv, 1, (0, 0, 0, 0, [])), (118, .iadd, 1, (0, 0, 0, 0, [])), (119, .istore 9, 2, (0, 0, 0, 0, [])), (121, .aload_n 0, 1, (0, 0, 0, 0, [])), (122, .getfield 19, 3, (8, 5, 0, 0, [])), (125, .iconst 0, 1, (0, 0, 0, 0, [])), (126, .iaload, 1, (0, 0, 0, 0, [])), (127, .bipush 9, 2, (0, 0, 9, 0, [])), (129, .idiv, 1, (0, 0, 0, 0, [])), (130, .iload 8, 2, (0, 0, 0, 0, [])), (132, .iload 6, 2, (0, 0, 0, 0, [])), (134, .imul, 1, (0, 0, 0, 0, [])), (135, .iload 7, 2, (0, 0, 0, 0, [])), (137, .idiv, 1, (0, 0, 0, 0, [])), (138, .isub, 1, (0, 0, 0, 0, [])), (139, .istore 10, 2, (0, 0, 0, 0, [])), (141, .iload 9, 2, (0, 0, 0, 0, [])), (143, .i2l, 1, (0, 0, 0, 0, [])), (144, .lconst 0, 1, (0, 0, 0, 0, [])), (145, .ldc2_w 81, 3, (0, 0, 0, 8, [])), (148, .invokestatic 66, 3, (107, 3, 0, 0, [])), (151, .ifCond .eq 36, 3, (187, 0, 0, 0, [])), (154, .iload 10, 2, (0, 0, 0, 0, [])), (156, .i2l, 1, (0, 0, 0, 0, [])), (157, .lconst 0, 1, (0, 0, 0, 0, [])), (158, .ldc2_w 81, 3, (0, 0, 0, 8, [])), (161, .invokestatic 66, 3, (107, 3, 0, 0, [])), (164, .ifCond .eq 23, 3, (187, 0, 0, 0, [])), (167, .aload_n 0, 1, (0, 0, 0, 0, [])), (168, .getfield 19, 3, (8, 5, 0, 0, [])), (171, .bipush 7, 2, (0, 0, 7, 0, [])), (173, .iload 9, 2, (0, 0, 0, 0, [])), (175, .iadd, 1, (0, 0, 0, 0, [])), (176, .bipush 9, 2, (0, 0, 9, 0, [])), (178, .iload 10, 2, (0, 0, 0, 0, [])), (180, .imul, 1, (0, 0, 0, 0, [])), (181, .iadd, 1, (0, 0, 0, 0, [])), (182, .iaload, 1, (0, 0, 0, 0, [])), (183, .iconst 1, 1, (0, 0, 1, 0, [])), (184, .if_icmp .ne 4, 3, (188, 0, 0, 0, [])), (187, .return_, 1, (0, 0, 0, 0, [])), (188, .aload_n 0, 1, (0, 0, 0, 0, [])), (189, .getfield 28, 3, (8, 17, 0, 0, [])), (192, .iload 9, 2, (0, 0, 0, 0, [])), (194, .bipush 9, 2, (0, 0, 9, 0, [])), (196, .iload 10, 2, (0, 0, 0, 0, [])), (198, .imul, 1, (0, 0, 0, 0, [])), (199, .iadd, 1, (0, 0, 0, 0, [])), (200, .iconst 1, 1, (0, 0, 1, 0, [])), (201, .bastore, 1, (0, 0, 0, 0, [])), (202, .iinc 8 1, 3, (0, 0, 1, 0, [])), (205, .goto (-111), 3, (94, 0, 0, 0, [])), (208, .return_, 1, (0, 0, 0, 0, []))]
def g_k149 : List (Nat × g_I) := [(0, .aload_n 0, 1, (0, 0, 0, 0, [])), (1, .iload_n 1, 1, (0, 0, 0, 0, [])), (2, .aload_n 0, 1, (0, 0, 0, 0, [])), (3, .getfield 19, 3, (8, 5, 0, 0, [])), (6, .iconst 4, 1, (0, 0, 4, 0, [])), (7, .iaload, 1, (0, 0, 0, 0, [])), (8, .aload_n 0, 1, (0, 0, 0, 0, [])), (9, .getfield 19, 3, (8, 5, 0, 0, [])), (12, .iconst 2, 1, (0, 0, 2, 0, [])), (13, .iaload, 1, (0, 0, 0, 0, [])), (14, .aload_n 0, 1, (0, 0, 0, 0, [])), (15, .getfield 19, 3, (8, 5, 0, 0, [])), (18, .iconst 3, 1, (0, 0, 3, 0, [])), (19, .iaload, 1, (0, 0, 0, 0, [])), (20, .invokevirtual 235, 3, (148, 4, 0, 0, [])), (23, .return_, 1, (0, 0, 0, 0, []))]
def g_k150 : List (Nat × g_I) := [(0, .aload_n 0, 1, (0, 0, 0, 0, [])), (1, .iconst 0, 1, (0, 0, 0, 0, [])), (2, .putfield 56, 3, (8, 0, 0, 0, [])), (5, .aload_n 0, 1, (0, 0, 0, 0, [])), (6, .invokevirtual 198, 3, (134, 0, 0, 0, [])), (9, .ifCond .ne 6, 3, (15, 0, 0, 0, [])), (12, .ldc 202, 2, (0, 0, -1000002, 0, [])), (14, .ireturn, 1, (0, 0, 0, 0, [])), (15, .iload_n 1, 1, (0, 0, 0, 0, [])), (16, .invokestatic 208, 3, (135, 1, 0, 0, [])), (19, .ifCond .eq 10, 3, (29, 0, 0, 0, [])), (22, .iload_n 2, 1, (0, 0, 0, 0, [])), (23, .invokestatic 224, 3, (136, 1, 0, 0, [])), (26, .ifCond .ne 6, 3, (32, 0, 0, 0, [])), (29, .ldc 76, 2, (0, 0, -1000001, 0, [])), (31, .ireturn, 1, (0, 0, 0, 0, [])), (32, .aload_n 0, 1, (0, 0, 0, 0, [])), (33, .iload_n 1, 1, (0, 0, 0, 0, [])), (34, .invokevirtual 239, 3, (149, 1, 0, 0, [])), (37, .aload_n 0, 1, (0, 0, 0, 0, [])), (38, .getfield 28, 3, (8, 17, 0, 0, [])), (41, .iload_n 2, 1, (0, 0, 0, 0, [])), (42, .baload, 1, (0, 0, 0, 0, [])), (43, .ifCond .eq 7, 3, (50, 0, 0, 0, [])), (46, .iconst 1, 1, (0, 0, 1, 0, [])), (47, .goto 4, 3, (51, 0, 0, 0, [])), (50, .iconst 0, 1, (0, 0, 0, 0, [])), (51, .ireturn, 1, (0, 0, 0, 0, []))]
def g_k151 : List (Nat × g_I) := [(0, .aload_n 0, 1, (0, 0, 0, 0, [])), (1, .getfield 28, 3, (8, 17, 0, 0, [])), (4, .iload_n 2, 1, (0, 0, 0, 0, [])), (5, .baload, 1, (0, 0, 0, 0, [])), (6, .ifCond .eq 21, 3, (27, 0, 0, 0, [])), (9, .iload_n 3, 1, (0, 0, 0, 0, [])), (10, .i2l, 1, (0, 0, 0, 0, [])), (11, .ldc2_w 242, 3, (0, 0, 0, 30, [])), (14, .ldc2_w 244, 3, (0, 0, 0, 42, [])), (17, .invokestatic 66, 3, (107, 3, 0, 0, [])), (20, .ifCond .eq 7, 3, (27, 0, 0, 0, [])), (23, .iconst 1, 1, (0, 0, 1, 0, [])), (24, .goto 4, 3, (28, 0, 0, 0, [])), (27, .iconst 0, 1, (0, 0, 0, 0, [])), (28, .istore 4, 2, (0, 0, 0, 0, [])), (30, .iload_n 1, 1, (0, 0, 0, 0, [])), (31, .tableswitch 71 1 4 #[29, 51, 54, 36], 29, (102, 1, 0, 0, [60, 82, 85, 67])), (60, .aload_n 0, 1, (0, 0, 0, 0, [])), (61, .getfield 28, 3, (8, 17, 0, 0, [])), (64, .iload_n 2, 1, (0, 0, 0, 0, [])), (65, .baload, 1, (0, 0, 0, 0, [])), (66, .ireturn, 1, (1, 0, 0, 0, [])), (67, .aload_n 0, 1, (0, 0, 0, 0, [])), (68, .getfield 28, 3, (8, 17, 0, 0, [])), (71, .iload_n 2, 1, (0, 0, 0, 0, [])), (72, .baload, 1, (0, 0, 0, 0, [])), (73, .ifCond .ne 7, 3, (80, 0, 0, 0, [])), (76, .iconst 1, 1, (0, 0, 1, 0, [])), (77, .goto 4, 3, (81, 0, 0, 0, [])), (80, .iconst 0, 1, (0, 0, 0, 0, [])), (81, .ireturn, 1, (1, 0, 0, 0, [])), (82, .iload 4, 2, (0, 0, 0, 0, [])), (84, .ireturn, 1, (1, 0, 0, 0, [])), (85, .iload 4, 2, (0, 0, 0, 0, [])), (87, .ifCond .ne 9, 3, (96, 0, 0, 0, [])), (90, .iload_n 3, 1, (0, 0, 0, 0, [])), (91, .bipush 36, 2, (0, 0, 36, 0, [])), (93, .if_icmp .ne 7, 3, (100, 0, 0, 0, [])), (96, .iconst 1, 1, (0, 0, 1, 0, [])), (97, .goto 4, 3, (101, 0, 0, 0, [])), (100, .iconst 0, 1, (0, 0, 0, 0, [])), (101, .ireturn, 1, (1, 0, 0, 0, [])), (102, .aload_n 0, 1, (0, 0, 0, 0, [])), (103, .getfield 28, 3, (8, 17, 0, 0, [])), (106, .iload_n 2, 1, (0, 0, 0, 0, [])), (107, .baload, 1, (0, 0, 0, 0, [])), (108, .ifCond .ne 21, 3, (129, 0, 0, 0, [])), (111, .iload_n 3, 1, (0, 0, 0, 0, [])), (112, .i2l, 1, (0, 0, 0, 0, [])), (113, .ldc2_w 246, 3, (0, 0, 0, 12, [])), (116, .ldc2_w 248, 3, (0, 0, 0, 60, [])), (119, .invokestatic 66, 3, (107, 3, 0, 0, [])), (122, .ifCond .ne 7, 3, (129, 0, 0, 0, [])), (125, .iconst 1, 1, (0, 0, 1, 0, [])), (126, .goto 4, 3, (130, 0, 0, 0, [])), (129, .iconst 0, 1, (0, 0, 0, 0, [])), (130, .ireturn, 1, (1, 0, 0, 0, []))]
def g_k152 : List (Nat × g_I) := [(0, .aload_n 0, 1, (0, 0, 0, 0, [])), (1, .getfield 19, 3, (8, 5, 0, 0, [])), (4, .bipush 88, 2, (0, 0, 88, 0, [])), (6, .iconst 3, 1, (0, 0, 3, 0, [])), (7, .iload_n 1, 1, (0, 0, 0, 0, [])), (8, .imul, 1, (0, 0, 0, 0, [])), (9, .iadd, 1, (0, 0, 0, 0, [])), (10, .iaload, 1, (0, 0, 0, 0, [])), (11, .ireturn, 1, (0, 0, 0, 0, []))]
def g_k153 : List (Nat × g_I) := [(0, .aload_n 0, 1, (0, 0, 0, 0, [])), (1, .getfield 19, 3, (8, 5, 0, 0, [])), (4, .bipush 88, 2, (0, 0, 88, 0, [])), (6, .iconst 3, 1, (0, 0, 3, 0, [])), (7, .iload_n 1, 1, (0, 0, 0, 0, [])), (8, .imul, 1, (0, 0, 0, 0, [])), (9, .iadd, 1, (0, 0, 0, 0, [])), (10, .iconst 1, 1, (0, 0, 1, 0, [])), (11, .iadd, 1, (0, 0, 0, 0, [])), (12, .iaload, 1, (0, 0, 0, 0, [])), (13, .ireturn, 1, (0, 0, 0, 0, []))]
def g_k154 : List (Nat × g_I) := [(0, .iconst 0, 1, (0, 0, 0, 0, [])), (1, .istore_n 2, 1, (0, 0, 0, 0, [])), (2, .iconst 0, 1, (0, 0, 0, 0, [])), (3, .istore_n 3, 1, (0, 0, 0, 0, [])), (4, .iload_n 3, 1, (0, 0, 0, 0, [])), (5, .aload_n 0, 1, (0, 0, 0, 0, [])), (6, .getfield 19, 3, (8, 5, 0, 0, [])), (9, .bipush 6, 2, (0, 0, 6, 0, [])), (11, .iaload, 1, (0, 0, 0, 0, [])), (12, .if_icmp .ge 37, 3, (49, 0, 0, 0, [])), (15, .iload_n 2, 1, (0, 0, 0, 0, [])), (16, .aload_n 0, 1, (0, 0, 0, 0, [])), (17, .aload_n 0, 1, (0, 0, 0, 0, [])), (18, .iload_n 3, 1, (0, 0, 0, 0, [])), (19, .invokevirtual 250, 3, (152, 1, 0, 0, [])), (22, .aload_n 0, 1, (0, 0, 0, 0, [])), (23, .iload_n 3, 1, (0, 0, 0, 0, [])), (24, .invokevirtual 253, 3, (153, 1, 0, 0, [])), (27, .iload_n 1, 1, (0, 0, 0, 0, [])), (28, .invokevirtual 256, 3, (151, 3, 0, 0, [])), (31, .ifCond .eq 9, 3, (40, 0, 0, 0, [])), (34, .iconst 1, 1, (0, 0, 1, 0, [])), (35, .iload_n 3, 1, (0, 0, 0, 0, [])), (36, .ishl, 1, (0, 0, 0, 0, [])), (37, .goto 4, 3, (41, 0, 0, 0, [])), (40, .iconst 0, 1, (0, 0, 0, 0, [])), (41, .ior, 1, (0, 0, 0, 0, [])), (42, .istore_n 2, 1, (0, 0, 0, 0, [])), (43, .iinc 3 1, 3, (0, 0, 1, 0, [])), (46, .goto (-42), 3, (4, 0, 0, 0, [])), (49, .iload_n 2, 1, (0, 0, 0, 0, [])), (50, .ireturn, 1, (0, 0, 0, 0, []))]
def g_k155 : List (Nat × g_I) := [(0, .aload_n 0, 1, (0, 0, 0, 0, [])), (1, .iload_n 1, 1, (0, 0, 0, 0, [])), (2, .invokevirtual 239, 3, (149, 1, 0, 0, [])), (5, .aload_n 0, 1, (0, 0, 0, 0, [])), (6, .getfield 19, 3, (8, 5, 0, 0, [])), (9, .bipush 112, 2, (0, 0, 112, 0, [])), (11, .iload_n 1, 1, (0, 0, 0, 0, [])), (12, .iadd, 1, (0, 0, 0, 0, [])), (13, .iaload, 1, (0, 0, 0, 0, [])), (14, .iconst 1, 1, (0, 0, 1, 0, [])), (15, .if_icmp .ne 7, 3, (22, 0, 0, 0, [])), (18, .iconst 0, 1, (0, 0, 0, 0, [])), (19, .goto 8, 3, (27, 0, 0, 0, [])), (22, .aload_n 0, 1, (0, 0, 0, 0, [])), (23, .iload_n 1, 1, (0, 0, 0, 0, [])), (24, .invokevirtual 260, 3, (154, 1, 0, 0, [])), (27, .ireturn, 1, (0, 0, 0, 0, []))]
def g_k156 : List (Nat × g_I) := [(0, .aload_n 0, 1, (0, 0, 0, 0, [])), (1, .iconst 0, 1, (0, 0, 0, 0, [])), (2, .putfield 56, 3, (8, 0, 0, 0, [])), (5, .aload_n 0, 1, (0, 0, 0, 0, [])), (6, .invokevirtual 198, 3, (134, 0, 0, 0, [])), (9, .ifCond .ne 6, 3, (15, 0, 0, 0, [])), (12, .ldc 202, 2, (0, 0, -1000002, 0, [])), (14, .ireturn, 1, (0, 0, 0, 0, [])), (15, .iload_n 1, 1, (0, 0, 0, 0, [])), (16, .invokestatic 208, 3, (135, 1, 0, 0, [])), (19, .ifCond .eq 11, 3, (30, 0, 0, 0, [])), (22, .aload_n 0, 1, (0, 0, 0, 0, [])), (23, .iload_n 1, 1, (0, 0, 0, 0, [])), (24, .invokevirtual 263, 3, (155, 1, 0, 0, [])), (27, .goto 5, 3, (32, 0, 0, 0, [])), (30, .ldc 76, 2, (0, 0, -1000001, 0, [])), (32, .ireturn, 1, (0, 0, 0, 0, []))]
def g_k157 : List (Nat × g_I) := [(0, .iconst 0, 1, (0, 0, 0, 0, [])), (1, .istore 6, 2, (0, 0, 0, 0, [])), (3, .iconst 0, 1, (0, 0, 0, 0, [])), (4, .istore 7, 2, (0, 0, 0, 0, [])), (6, .iload 7, 2, (0, 0, 0, 0, [])), (8, .bipush 72, 2, (0, 0, 72, 0, [])), (10, .if_icmp .gt 67, 3, (77, 0, 0, 0, [])), (13, .aload_n 0, 1, (0, 0, 0, 0, [])), (14, .iload 7, 2, (0, 0, 0, 0, [])), (16, .iload_n 2, 1, (0, 0, 0, 0, [])), (17, .iload_n 3, 1, (0, 0, 0, 0, [])), (18, .iload 4, 2, (0, 0, 0, 0, [])), (20, .invokevirtual 235, 3, (148, 4, 0, 0, [])), (23, .iload 6, 2, (0, 0, 0, 0, [])), (25, .aload_n 0, 1, (0, 0, 0, 0, [])), (26, .aload_n 0, 1, (0, 0, 0, 0, [])), (27, .iload_n 1, 1, (0, 0, 0, 0, [])), (28, .invokevirtual 250, 3, (152, 1, 0, 0, [])), (31, .aload_n 0, 1, (0, 0, 0, 0, [])), (32, .iload_n 1, 1, (0, 0, 0, 0, [])), (33, .invokevirtual 253, 3, (153, 1, 0, 0, [])), (36, .iload 7, 2, (0, 0, 0, 0, [])), (38, .invokevirtual 256, 3, (151, 3, 0, 0, [])), (41, .ifCond .eq 26, 3, (67, 0, 0, 0, [])), (44, .iload 5, 2, (0, 0, 0, 0, [])), (46, .ifCond .eq 17, 3, (63, 0, 0, 0, [])), (49, .aload_n 0, 1, (0, 0, 0, 0, [])), (50, .getfield 19, 3, (8, 5, 0, 0, [])), (53, .bipush 112, 2, (0, 0, 112, 0, [])), (55, .iload 7, 2, (0, 0, 0, 0, [])), (57, .iadd, 1, (0, 0, 0, 0, [])), (58, .iaload, 1, (0, 0, 0, 0, [])), (59, .iconst 1, 1, (0, 0, 1, 0, [])), (60, .if_icmp .eq 7, 3, (67, 0, 0, 0, [])), (63, .iconst 1, 1, (0, 0, 1, 0, [])), (64, .goto 4, 3, (68, 0, 0, 0, [])), (67, .iconst 0, 1, (0, 0, 0, 0, [])), (68, .iadd, 1, (0, 0, 0, 0, [])), (69, .istore 6, 2, (0, 0, 0, 0, [])), (71, .iinc 7 1, 3, (0, 0, 1, 0, [])), (74, .goto (-68), 3, (6, 0, 0, 0, [])), (77, .iload 6, 2, (0, 0, 0, 0, [])), (79, .ireturn, 1, (0, 0, 0, 0, []))]
def g_k158 : List (Nat × g_I) := [(0, .aload_n 0, 1, (0, 0, 0, 0, [])), (1, .iload_n 1, 1, (0, 0, 0, 0, [])), (2, .aload_n 0, 1, (0, 0, 0, 0, [])), (3, .getfield 19, 3, (8, 5, 0, 0, [])), (6, .iconst 4, 1, (0, 0, 4, 0, [])), (7, .iaload, 1, (0, 0, 0, 0, [])), (8, .aload_n 0, 1, (0, 0, 0, 0, [])), (9, .getfield 19, 3, (8, 5, 0, 0, [])), (12, .iconst 2, 1, (0, 0, 2, 0, [])), (13, .iaload, 1, (0, 0, 0, 0, [])), (14, .aload_n 0, 1, (0, 0, 0, 0, [])), (15, .getfield 19, 3, (8, 5, 0, 0, [])), (18, .iconst 3, 1, (0, 0, 3, 0, [])), (19, .iaload, 1, (0, 0, 0, 0, [])), (20, .iconst 1, 1, (0, 0, 1, 0, [])), (21, .invokevirtual 266, 3, (157, 5, 0, 0, [])), (24, .ireturn, 1, (0, 0, 0, 0, []))]
def g_k159 : List (Nat × g_I) := [(0, .aload_n 0, 1, (0, 0, 0, 0, [])), (1, .iconst 0, 1, (0, 0, 0, 0, [])), (2, .putfield 56, 3, (8, 0, 0, 0, [])), (5, .aload_n 0, 1, (0, 0, 0, 0, [])), (6, .iload_n 1, 1, (0, 0, 0, 0, [])), (7, .invokevirtual 270, 3, (138, 1, 0, 0, [])), (10, .ifCond .eq 15, 3, (25, 0, 0, 0, [])), (13, .iload_n 2, 1, (0, 0, 0, 0, [])), (14, .i2l, 1, (0, 0, 0, 0, [])), (15, .lconst 0, 1, (0, 0, 0, 0, [])), (16, .ldc2_w 222, 3, (0, 0, 0, 4, [])), (19, .invokestatic 66, 3, (107, 3, 0, 0, [])), (22, .ifCond .ne 6, 3, (28, 0, 0, 0, [])), (25, .ldc 76, 2, (0, 0, -1000001, 0, [])), (27, .ireturn, 1, (0, 0, 0, 0, [])), (28, .aload_n 0, 1, (0, 0, 0, 0, [])), (29, .getfield 19, 3, (8, 5, 0, 0, [])), (32, .bipush 88, 2, (0, 0, 88, 0, [])), (34, .iconst 3, 1, (0, 0, 3, 0, [])), (35, .iload_n 1, 1, (0, 0, 0, 0, [])), (36, .imul, 1, (0, 0, 0, 0, [])), (37, .iadd, 1, (0, 0, 0, 0, [])), (38, .iconst 2, 1, (0, 0, 2, 0, [])), (39, .iadd, 1, (0, 0, 0, 0, [])), (40, .iaload, 1, (0, 0, 0, 0, [])), (41, .istore_n 3, 1, (0, 0, 0, 0, [])), (42, .iload_n 2, 1, (0, 0, 0, 0, [])), (43, .tableswitch 51 0 3 #[29, 35, 37, 43], 29, (94, 0, 0, 0, [72, 78, 80, 86])), (72, .aload_n 0, 1, (0, 0, 0, 0, [])), (73, .iload_n 1, 1, (0, 0, 0, 0, [])), (74, .invokevirtual 253, 3, (153, 1, 0, 0, [])), (77, .ireturn, 1, (0, 0, 0, 0, [])), (78, .iload_n 3, 1, (0, 0, 0, 0, [])), (79, .ireturn, 1, (0, 0, 0, 0, [])), (80, .aload_n 0, 1, (0, 0, 0, 0, [])), (81, .iload_n 1, 1, (0, 0, 0, 0, [])), (82, .invokevirtual 273, 3, (158, 1, 0, 0, [])), (85, .ireturn, 1, (0, 0, 0, 0, [])), (86, .iload_n 3, 1, (0, 0, 0, 0, [])), (87, .aload_n 0, 1, (0, 0, 0, 0, [])), (88, .iload_n 1, 1, (0, 0, 0, 0, [])), (89, .invokevirtual 273, 3, (158, 1, 0, 0, [])), (92, .imul, 1, (0, 0, 0, 0, [])), (93, .ireturn, 1, (0, 0, 0, 0, [])), (94, .iconst 0, 1, (0, 0, 0, 0, [])), (95, .istore 4, 2, (0, 0, 0, 0, [])), (97, .iconst 1, 1, (0, 0, 1, 0, [])), (98, .istore 5, 2, (0, 0, 0, 0, [])), (100, .iload 5, 2, (0, 0, 0, 0, [])), (102, .bipush 6, 2, (0, 0, 6, 0, [])), (104, .if_icmp .gt 34, 3, (138, 0, 0, 0, [])), (107, .iload 4, 2, (0, 0, 0, 0, [])), (109, .aload_n 0, 1, (0, 0, 0, 0, [])), (110, .iload_n 1, 1, (0, 0, 0, 0, [])), (111, .iload 5, 2, (0, 0, 0, 0, [])), (113, .aload_n 0, 1, (0, 0, 0, 0, [])), (114, .getfield 19, 3, (8, 5, 0, 0, [])), (117, .iconst 2, 1, (0, 0, 2, 0, [])), (118, .iaload, 1, (0, 0, 0, 0, [])), (119, .aload_n 0, 1, (0, 0, 0, 0, [])), (120, .getfield 19, 3, (8, 5, 0, 0, [])), (123, .iconst 3, 1, (0, 0, 3, 0, [])), (124, .iaload, 1, (0, 0, 0, 0, [])), (125, .iconst 0, 1, (0, 0, 0, 0, [])), (126, .invokevirtual 266, 3, (157, 5, 0, 0, [])), (129, .iadd, 1, (0, 0, 0, 0, [])), (130, .istore 4, 2, (0, 0, 0, 0, [])), (132, .iinc 5 1, 3, (0, 0, 1, 0, [])), (135, .goto (-35), 3, (100, 0, 0, 0, [])), (138, .iload_n 3, 1, (0, 0, 0, 0, [])), (139, .iload 4, 2, (0, 0, 0, 0, [])), (141, .imul, 1, (0, 0, 0, 0, [])), (142, .ireturn, 1, (0, 0, 0, 0, []))]
def g_k160 : List (Nat × g_I) := [(0, .iload_n 1, 1, (0, 0, 0, 0, [])), (1, .bipush 9, 2, (0, 0, 9, 0, [])), (3, .irem, 1, (0, 0, 0, 0, [])), (4, .iload_n 2, 1, (0, 0, 0, 0, [])), (5, .iconst 1, 1, (0, 0, 1, 0, [])), (6, .if_icmp .ne 7, 3, (13, 0, 0, 0, [])), (9, .iconst 1, 1, (0, 0, 1, 0, [])), (10, .goto 13, 3, (23, 0, 0, 0, [])), (13, .iload_n 2, 1, (0, 0, 0, 0, [])), (14, .iconst 3, 1, (0, 0, 3, 0, [])), (15, .if_icmp .ne 7, 3, (22, 0, 0, 0, [])), (18, .iconst (-1), 1, (0, 0, -1, 0, [])), (19, .goto 4, 3, (23, 0, 0, 0, [])), (22, .iconst 0, 1, (0, 0, 0, 0, [])), (23, .iadd, 1, (0, 0, 0, 0, [])), (24, .istore_n 3, 1, (0, 0, 0, 0, [])), (25, .iload_n 1, 1, (0, 0, 0, 0, [])), (26, .bipush 9, 2, (0, 0, 9, 0, [])), (28, .idiv, 1, (0, 0, 0, 0, [])), (29, .iload_n 2, 1, (0, 0, 0, 0, [])), (30, .ifCond .ne 7, 3, (37, 0, 0, 0, [])), (33, .iconst (-1), 1, (0, 0, -1, 0, [])), (34, .goto 13, 3, (47, 0, 0, 0, [])), (37, .iload_n 2, 1, (0, 0, 0, 0, [])), (38, .iconst 2, 1, (0, 0, 2, 0, [])), (39, .if_icmp .ne 7, 3, (46, 0, 0, 0, [])), (42, .iconst 1, 1, (0, 0, 1, 0, [])), (43, .goto 4, 3, (47, 0, 0, 0, [])), (46, .iconst 0, 1, (0, 0, 0, 0, [])), (47, .iadd, 1, (0, 0, 0, 0, [])), (48, .istore 4, 2, (0, 0, 0, 0, [])), (50, .iload_n 3, 1, (0, 0, 0, 0, [])), (51, .i2l, 1, (0, 0, 0, 0, [])), (52, .lconst 0, 1, (0, 0, 0, 0, [])), (53, .ldc2_w 81, 3, (0, 0, 0, 8, [])), (56, .invokestatic 66, 3, (107, 3, 0, 0, [])), (59, .ifCond .eq 44, 3, (103, 0, 0, 0, [])), (62, .iload 4, 2, (0, 0, 0, 0, [])), (64, .i2l, 1, (0, 0, 0, 0, [])), (65, .lconst 0, 1, (0, 0, 0, 0, [])), (66, .ldc2_w 81, 3, (0, 0, 0, 8, [])), (69, .invokestatic 66, 3, (107, 3, 0, 0, [])), (72, .ifCond .eq 31, 3, (103, 0, 0, 0, [])), (75, .aload_n 0, 1, (0, 0, 0, 0, [])), (76, .getfield 19, 3, (8, 5, 0, 0, [])), (79, .bipush 7, 2, (0, 0, 7, 0, [])), (81, .iload_n 3, 1, (0, 0, 0, 0, [])), (82, .iadd, 1, (0, 0, 0, 0, [])), (83, .bipush 9, 2, (0, 0, 9, 0, [])), (85, .iload 4, 2, (0, 0, 0, 0, [])), (87, .imul, 1, (0, 0, 0, 0, [])), (88, .iadd, 1, (0, 0, 0, 0, [])), (89, .iaload, 1, (0, 0, 0, 0, [])), (90, .ifCond .ne 13, 3, (103, 0, 0, 0, [])), (93, .iload_n 3, 1, (0, 0, 0, 0, [])), (94, .bipush 9, 2, (0, 0, 9, 0, [])), (96, .iload 4, 2, (0, 0, 0, 0, [])), (98, .imul, 1, (0, 0, 0, 0, [])), (99, .iadd, 1, (0, 0, 0, 0, [])), (100, .goto 5, 3, (105, 0, 0, 0, [])), (103, .ldc 92, 2, (0, 0, -1000000, 0, [])), (105, .ireturn, 1, (0, 0, 0, 0, []))]
def g_k161 : List (Nat × g_I) := [(0, .aload_n 0, 1, (0, 0, 0, 0, [])), (1, .getfield 19, 3, (8, 5, 0, 0, [])), (4, .bipush 7, 2, (0, 0, 7, 0, [])), (6, .iload_n 1, 1, (0, 0, 0, 0, [])), (7, .iadd, 1, (0, 0, 0, 0, [])), (8, .iaload, 1, (0, 0, 0, 0, [])), (9, .ifCond .ne 7, 3, (16, 0, 0, 0, [])), (12, .iconst 1, 1, (0, 0, 1, 0, [])), (13, .goto 4, 3, (17, 0, 0, 0, [])), (16, .iconst 0, 1, (0, 0, 0, 0, [])), (17, .ireturn, 1, (1, 0, 0, 0, []))]
def g_k162 : List (Nat × g_I) := [(0, .iconst 0, 1, (0, 0, 0, 0, [])), (1, .istore_n 2, 1, (0, 0, 0, 0, [])), (2, .iconst 0, 1, (0, 0, 0, 0, [])), (3, .istore_n 3, 1, (0, 0, 0, 0, [])), (4, .iload_n 3, 1, (0, 0, 0, 0, [])), (5, .aload_n 0, 1, (0, 0, 0, 0, [])), (6, .getfield 19, 3, (8, 5, 0, 0, [])), (9, .bipush 6, 2, (0, 0, 6, 0, [])), (11, .iaload, 1, (0, 0, 0, 0, [])), (12, .if_icmp .ge 28, 3, (40, 0, 0, 0, [])), (15, .iload_n 2, 1, (0, 0, 0, 0, [])), (16, .aload_n 0, 1, (0, 0, 0, 0, [])), (17, .iload_n 3, 1, (0, 0, 0, 0, [])), (18, .invokevirtual 253, 3, (153, 1, 0, 0, [])), (21, .iload_n 1, 1, (0, 0, 0, 0, [])), (22, .if_icmp .ne 9, 3, (31, 0, 0, 0, [])), (25, .iconst 1, 1, (0, 0, 1, 0, [])), (26, .iload_n 3, 1, (0, 0, 0, 0, [])), (27, .ishl, 1, (0, 0, 0, 0, [])), (28, .goto 4, 3, (32, 0, 0, 0, [])), (31, .iconst 0, 1, (0, 0, 0, 0, [])), (32, .ior, 1, (0, 0, 0, 0, [])), (33, .istore_n 2, 1, (0, 0, 0, 0, [])), (34, .iinc 3 1, 3, (0, 0, 1, 0, [])), (37, .goto (-33), 3, (4, 0, 0, 0, [])), (40, .iload_n 2, 1, (0, 0, 0, 0, [])), (41, .ireturn, 1, (0, 0, 0, 0, []))]
def g_k163 : List (Nat × g_I) := [(0, .aload_n 0, 1, (0, 0, 0, 0, [])), (1, .iload_n 1, 1, (0, 0, 0, 0, [])), (2, .invokevirtual 263, 3, (155, 1, 0, 0, [])), (5, .iload_n 2, 1, (0, 0, 0, 0, [])), (6, .iand, 1, (0, 0, 0, 0, [])), (7, .istore_n 3, 1, (0, 0, 0, 0, [])), (8, .iconst 0, 1, (0, 0, 0, 0, [])), (9, .istore 4, 2, (0, 0, 0, 0, [])), (11, .iconst 0, 1, (0, 0, 0, 0, [])), (12, .istore 5, 2, (0, 0, 0, 0, [])), (14, .iload 5, 2, (0, 0, 0, 0, [])), (16, .sipush 20736, 3, (0, 0, 20736, 0, [])), (19, .if_icmp .ge 17, 3, (36, 0, 0, 0, [])), (22, .aload_n 0, 1, (0, 0, 0, 0, [])), (23, .getfield 35, 3, (8, 19, 0, 0, [])), (26, .iload 5, 2, (0, 0, 0, 0, [])), (28, .iconst 0, 1, (0, 0, 0, 0, [])), (29, .bastore, 1, (0, 0, 0, 0, [])), (30, .iinc 5 1, 3, (0, 0, 1, 0, [])), (33, .goto (-19), 3, (14, 0, 0, 0, [])), (36, .iconst 0, 1, (0, 0, 0, 0, [])), (37, .istore 5, 2, (0, 0, 0, 0, [])), (39, .iload 5, 2, (0, 0, 0, 0, [])), (41, .sipush 20736, 3, (0, 0, 20736, 0, [])), (44, .if_icmp .ge 102, 3, (146, 0, 0, 0, [])), (47, .iconst 0, 1, (0, 0, 0, 0, [])), (48, .istore 6, 2, (0, 0, 0, 0, [])), (50, .iload 6, 2, (0, 0, 0, 0, [])), (52, .iconst 5, 1, (0, 0, 5, 0, [])), (53, .if_icmp .ge 87, 3, (140, 0, 0, 0, [])), (56, .aload_n 0, 1, (0, 0, 0, 0, [])), (57, .getfield 32, 3, (8, 18, 0, 0, [])), (60, .iload 5, 2, (0, 0, 0, 0, [])), (62, .baload, 1, (0, 0, 0, 0, [])), (63, .ifCond .eq 77, 3, (140, 0, 0, 0, [])), (66, .aload_n 0, 1, (0, 0, 0, 0, [])), (67, .iload 5, 2, (0, 0, 0, 0, [])), (69, .bipush 81, 2, (0, 0, 81, 0, [])), (71, .irem, 1, (0, 0, 0, 0, [])), (72, .iload 6, 2, (0, 0, 0, 0, [])), (74, .invokevirtual 276, 3, (160, 2, 0, 0, [])), (77, .istore 7, 2, (0, 0, 0, 0, [])), (79, .iload 7, 2, (0, 0, 0, 0, [])), (81, .ldc 92, 2, (0, 0, -1000000, 0, [])), (83, .if_icmp .eq 51, 3, (134, 0, 0, 0, [])), (86, .iload 5, 2, (0, 0, 0, 0, [])), (88, .bipush 81, 2, (0, 0, 81, 0, [])), (90, .idiv, 1, (0, 0, 0, 0, [])), (91, .aload_n 0, 1, (0, 0, 0, 0, [])), (92, .iload 7, 2, (0, 0, 0, 0, [])), (94, .invokevirtual 279, 3, (162, 1, 0, 0, [])), (97, .iload_n 3, 1, (0, 0, 0, 0, [])), (98, .iand, 1, (0, 0, 0, 0, [])), (99, .ior, 1, (0, 0, 0, 0, [])), (100, .istore 8, 2, (0, 0, 0, 0, [])), (102, .aload_n 0, 1, (0, 0, 0, 0, [])), (103, .getfield 35, 3, (8, 19, 0, 0, [])), (106, .iload 7, 2, (0, 0, 0, 0, [])), (108, .bipush 81, 2, (0, 0, 81, 0, [])), (110, .iload 8, 2, (0, 0, 0, 0, [])), (112, .imul, 1, (0, 0, 0, 0, [])), (113, .iadd, 1, (0, 0, 0, 0, [])), (114, .iconst 1, 1, (0, 0, 1, 0, [])), (115, .bastore, 1, (0, 0, 0, 0, [])), (116, .iload 4, 2, (0, 0, 0, 0, [])), (118, .ifCond .ne 9, 3, (127, 0, 0, 0, [])), (121, .iload 8, 2, (0, 0, 0, 0, [])), (123, .iload_n 2, 1, (0, 0, 0, 0, [])), (124, .if_icmp .ne 7, 3, (131, 0, 0, 0, [])), (127, .iconst 1, 1, (0, 0, 1, 0, [])), (128, .goto 4, 3, (132, 0, 0, 0, [])), (131, .iconst 0, 1, (0, 0, 0, 0, [])), (132, .istore 4, 2, (0, 0, 0, 0, [])), (134, .iinc 6 1, 3, (0, 0, 1, 0, [])), (137, .goto (-87), 3, (50, 0, 0, 0, [])), (140, .iinc 5 1, 3, (0, 0, 1, 0, [])), (143, .goto (-104), 3, (39, 0, 0, 0, [])), (146, .iconst 0, 1, (0, 0, 0, 0, [])), (147, .istore 5, 2, (0, 0, 0, 0, [])), (149, .iload 5, 2, (0, 0, 0, 0, [])), (151, .sipush 20736, 3, (0, 0, 20736, 0, [])), (154, .if_icmp .ge 23, 3, (177, 0, 0, 0, [])), (157, .aload_n 0, 1, (0, 0, 0, 0, [])), (158, .getfield 32, 3, (8, 18, 0, 0, [])), (161, .iload 5, 2, (0, 0, 0, 0, [])), (163, .aload_n 0, 1, (0, 0, 0, 0, [])), (164, .getfield 35, 3, (8, 19, 0, 0, [])), (167, .iload 5, 2, (0, 0, 0, 0, [])), (169, .baload, 1, (0, 0, 0, 0, [])), (170, .bastore, 1, (0, 0, 0, 0, [])), (171, .iinc 5 1, 3, (0, 0, 1, 0, [])), (174, .goto (-25), 3, (149, 0, 0, 0, [])), (177, .iload 4, 2, (0, 0, 0, 0, [])), (179, .ireturn, 1, (1, 0, 0, 0, []))]
def g_k164 : List (Nat × g_I) := [(0, .aload_n 0, 1, (0, 0, 0, 0, [])), (1, .iconst 0, 1, (0, 0, 0, 0, [])), (2, .putfield 56, 3, (8, 0, 0, 0, [])), (5, .aload_n 0, 1, (0, 0, 0, 0, [])), (6, .invokevirtual 198, 3, (134, 0, 0, 0, [])), (9, .ifCond .ne 6, 3, (15, 0, 0, 0, [])), (12, .ldc 202, 2, (0, 0, -1000002, 0, [])), (14, .ireturn, 1, (0, 0, 0, 0, [])), (15, .iload_n 1, 1, (0, 0, 0, 0, [])), (16, .invokestatic 224, 3, (136, 1, 0, 0, [])), (19, .ifCond .eq 31, 3, (50, 0, 0, 0, [])), (22, .iload_n 2, 1, (0, 0, 0, 0, [])), (23, .invokestatic 208, 3, (135, 1, 0, 0, [])), (26, .ifCond .eq 24, 3, (50, 0, 0, 0, [])), (29, .iload_n 3, 1, (0, 0, 0, 0, [])), (30, .i2l, 1, (0, 0, 0, 0, [])), (31, .lconst 0, 1, (0, 0, 0, 0, [])), (32, .iconst 1, 1, (0, 0, 1, 0, [])), (33, .aload_n 0, 1, (0, 0, 0, 0, [])), (34, .getfield 19, 3, (8, 5, 0, 0, [])), (37, .bipush 6, 2, (0, 0, 6, 0, [])), (39, .iaload, 1, (0, 0, 0, 0, [])), (40, .ishl, 1, (0, 0, 0, 0, [])), (41, .iconst 1, 1, (0, 0, 1, 0, [])), (42, .isub, 1, (0, 0, 0, 0, [])), (43, .i2l, 1, (0, 0, 0, 0, [])), (44, .invokestatic 66, 3, (107, 3, 0, 0, [])), (47, .ifCond .ne 6, 3, (53, 0, 0, 0, [])), (50, .ldc 76, 2, (0, 0, -1000001, 0, [])), (52, .ireturn, 1, (0, 0, 0, 0, [])), (53, .aload_n 0, 1, (0, 0, 0, 0, [])), (54, .iload_n 1, 1, (0, 0, 0, 0, [])), (55, .invokevirtual 282, 3, (161, 1, 0, 0, [])), (58, .ifCond .ne 6, 3, (64, 0, 0, 0, [])), (61, .ldc 92, 2, (0, 0, -1000000, 0, [])), (63, .ireturn, 1, (0, 0, 0, 0, [])), (64, .iconst 0, 1, (0, 0, 0, 0, [])), (65, .istore 4, 2, (0, 0, 0, 0, [])), (67, .iload 4, 2, (0, 0, 0, 0, [])), (69, .sipush 20736, 3, (0, 0, 20736, 0, [])), (72, .if_icmp .ge 17, 3, (89, 0, 0, 0, [])), (75, .aload_n 0, 1, (0, 0, 0, 0, [])), (76, .getfield 32, 3, (8, 18, 0, 0, [])), (79, .iload 4, 2, (0, 0, 0, 0, [])), (81, .iconst 0, 1, (0, 0, 0, 0, [])), (82, .bastore, 1, (0, 0, 0, 0, [])), (83, .iinc 4 1, 3, (0, 0, 1, 0, [])), (86, .goto (-19), 3, (67, 0, 0, 0, [])), (89, .aload_n 0, 1, (0, 0, 0, 0, [])), (90, .iload_n 1, 1, (0, 0, 0, 0, [])), (91, .invokevirtual 279, 3, (162, 1, 0, 0, [])), (94, .aload_n 0, 1, (0, 0, 0, 0, [])), (95, .iload_n 2, 1, (0, 0, 0, 0, [])), (96, .invokevirtual 263, 3, (155, 1, 0, 0, [])), (99, .iand, 1, (0, 0, 0, 0, [])), (100, .iload_n 3, 1, (0, 0, 0, 0, [])), (101, .iand, 1, (0, 0, 0, 0, [])), (102, .istore 4, 2, (0, 0, 0, 0, [])), (104, .aload_n 0, 1, (0, 0, 0, 0, [])), (105, .getfield 32, 3, (8, 18, 0, 0, [])), (108, .iload_n 1, 1, (0, 0, 0, 0, [])), (109, .bipush 81, 2, (0, 0, 81, 0, [])), (111, .iload 4, 2, (0, 0, 0, 0, [])), (113, .imul, 1, (0, 0, 0, 0, [])), (114, .iadd, 1, (0, 0, 0, 0, [])), (115, .iconst 1, 1, (0, 0, 1, 0, [])), (116, .bastore, 1, (0, 0, 0, 0, [])), (117, .iload 4, 2, (0, 0, 0, 0, [])), (119, .iload_n 3, 1, (0, 0, 0, 0, [])), (120, .if_icmp .ne 5, 3, (125, 0, 0, 0, [])), (123, .iconst 0, 1, (0, 0, 0, 0, [])), (124, .ireturn, 1, (0, 0, 0, 0, [])), (125, .iload_n 2, 1, (0, 0, 0, 0, [])), (126, .iconst 1, 1, (0, 0, 1, 0, [])), (127, .iadd, 1, (0, 0, 0, 0, [])), (128, .istore 5, 2, (0, 0, 0, 0, [])), (130, .iload 5, 2, (0, 0, 0, 0, [])), (132, .bipush 72, 2, (0, 0, 72, 0, [])), (134, .if_icmp .gt 24, 3, (158, 0, 0, 0, [])), (137, .aload_n 0, 1, (0, 0, 0, 0, [])), (138, .iload 5, 2, (0, 0, 0, 0, [])), (140, .iload_n 3, 1, (0, 0, 0, 0, [])), (141, .invokevirtual 285, 3, (163, 2, 0, 0, [])), (144, .ifCond .eq 8, 3, (152, 0, 0, 0, [])), (147, .iload 5, 2, (0, 0, 0, 0, [])), (149, .iload_n 2, 1, (0, 0, 0, 0, [])), (150, .isub, 1, (0, 0, 0, 0, [])), (151, .ireturn, 1, (0, 0, 0, 0, [])), (152, .iinc 5 1, 3, (0, 0, 1, 0, [])), (155, .goto (-25), 3, (130, 0, 0, 0, [])), (158, .ldc 92, 2, (0, 0, -1000000, 0, [])), (160, .ireturn, 1, (0, 0, 0, 0, []))]
def g_k165 : List (Nat × g_I) := [(0, .aload_n 0, 1, (0, 0, 0, 0, [])), (1, .getfield 7, 3, (8, 2, 0, 0, [])), (4, .iload_n 1, 1, (0, 0, 0, 0, [])), (5, .iaload, 1, (0, 0, 0, 0, [])), (6, .ifCond .ge 7, 3, (13, 0, 0, 0, [])), (9, .iconst 1, 1, (0, 0, 1, 0, [])), (10, .goto 28, 3, (38, 0, 0, 0, [])), (13, .iload_n 2, 1, (0, 0, 0, 0, [])), (14, .ifCond .lt 19, 3, (33, 0, 0, 0, [])), (17, .iload_n 2, 1, (0, 0, 0, 0, [])), (18, .i2l, 1, (0, 0, 0, 0, [])), (19, .iload_n 3, 1, (0, 0, 0, 0, [])), (20, .i2l, 1, (0, 0, 0, 0, [])), (21, .ladd, 1, (0, 0, 0, 0, [])), (22, .aload_n 0, 1, (0, 0, 0, 0, [])), (23, .getfield 13, 3, (8, 3, 0, 0, [])), (26, .iload_n 1, 1, (0, 0, 0, 0, [])), (27, .iaload, 1, (0, 0, 0, 0, [])), (28, .i2l, 1, (0, 0, 0, 0, [])), (29, .lcmp, 1, (0, 0, 0, 0, [])), (30, .ifCond .le 7, 3, (37, 0, 0, 0, [])), (33, .iconst 2, 1, (0, 0, 2, 0, [])), (34, .goto 4, 3, (38, 0, 0, 0, [])), (37, .iconst 0, 1, (0, 0, 0, 0, [])), (38, .ireturn, 1, (0, 0, 0, 0, []))]
def g_k166 : List (Nat × g_I) := [(0, .aload_n 0, 1, (0, 0, 0, 0, [])), (1, .iconst 0, 1, (0, 0, 0, 0, [])), (2, .putfield 56, 3, (8, 0, 0, 0, [])), (5, .aload_n 0, 1, (0, 0, 0, 0, [])), (6, .invokevirtual 198, 3, (134, 0, 0, 0, [])), (9, .ifCond .ne 6, 3, (15, 0, 0, 0, [])), (12, .ldc 202, 2, (0, 0, -1000002, 0, [])), (14, .ireturn, 1, (0, 0, 0, 0, [])), (15, .iload_n 1, 1, (0, 0, 0, 0, [])), (16, .invokestatic 224, 3, (136, 1, 0, 0, [])), (19, .ifCond .eq 58, 3, (77, 0, 0, 0, [])), (22, .aload_n 0, 1, (0, 0, 0, 0, [])), (23, .iload_n 1, 1, (0, 0, 0, 0, [])), (24, .invokevirtual 282, 3, (161, 1, 0, 0, [])), (27, .ifCond .eq 50, 3, (77, 0, 0, 0, [])), (30, .iload_n 2, 1, (0, 0, 0, 0, [])), (31, .invokestatic 208, 3, (135, 1, 0, 0, [])), (34, .ifCond .eq 43, 3, (77, 0, 0, 0, [])), (37, .iload_n 3, 1, (0, 0, 0, 0, [])), (38, .invokestatic 70, 3, (109, 1, 0, 0, [])), (41, .ifCond .eq 36, 3, (77, 0, 0, 0, [])), (44, .iload 5, 2, (0, 0, 0, 0, [])), (46, .i2l, 1, (0, 0, 0, 0, [])), (47, .lconst 0, 1, (0, 0, 0, 0, [])), (48, .ldc2_w 289, 3, (0, 0, 0, 40, [])), (51, .invokestatic 66, 3, (107, 3, 0, 0, [])), (54, .ifCond .eq 23, 3, (77, 0, 0, 0, [])), (57, .iload_n 2, 1, (0, 0, 0, 0, [])), (58, .iload 5, 2, (0, 0, 0, 0, [])), (60, .iadd, 1, (0, 0, 0, 0, [])), (61, .bipush 72, 2, (0, 0, 72, 0, [])), (63, .if_icmp .gt 14, 3, (77, 0, 0, 0, [])), (66, .iload 6, 2, (0, 0, 0, 0, [])), (68, .i2l, 1, (0, 0, 0, 0, [])), (69, .lconst 0, 1, (0, 0, 0, 0, [])), (70, .lconst 1, 1, (0, 0, 0, 1, [])), (71, .invokestatic 66, 3, (107, 3, 0, 0, [])), (74, .ifCond .ne 6, 3, (80, 0, 0, 0, [])), (77, .ldc 76, 2, (0, 0, -1000001, 0, [])), (79, .ireturn, 1, (0, 0, 0, 0, [])), (80, .aload_n 0, 1, (0, 0, 0, 0, [])), (81, .iload_n 3, 1, (0, 0, 0, 0, [])), (82, .iload 4, 2, (0, 0, 0, 0, [])), (84, .iload 5, 2, (0, 0, 0, 0, [])), (86, .invokevirtual 291, 3, (165, 3, 0, 0, [])), (89, .istore 7, 2, (0, 0, 0, 0, [])), (91, .iload 7, 2, (0, 0, 0, 0, [])), (93, .ifCond .le 10, 3, (103, 0, 0, 0, [])), (96, .aload_n 0, 1, (0, 0, 0, 0, [])), (97, .iload 7, 2, (0, 0, 0, 0, [])), (99, .invokevirtual 77, 3, (108, 1, 0, 0, [])), (102, .ireturn, 1, (0, 0, 0, 0, [])), (103, .aload_n 0, 1, (0, 0, 0, 0, [])), (104, .iconst 0, 1, (0, 0, 0, 0, [])), (105, .putfield 60, 3, (8, 1, 0, 0, [])), (108, .iload_n 1, 1, (0, 0, 0, 0, [])), (109, .istore 8, 2, (0, 0, 0, 0, [])), (111, .aload_n 0, 1, (0, 0, 0, 0, [])), (112, .iload_n 1, 1, (0, 0, 0, 0, [])), (113, .invokevirtual 279, 3, (162, 1, 0, 0, [])), (116, .aload_n 0, 1, (0, 0, 0, 0, [])), (117, .iload_n 2, 1, (0, 0, 0, 0, [])), (118, .invokevirtual 263, 3, (155, 1, 0, 0, [])), (121, .iand, 1, (0, 0, 0, 0, [])), (122, .istore 9, 2, (0, 0, 0, 0, [])), (124, .iconst 0, 1, (0, 0, 0, 0, [])), (125, .istore 10, 2, (0, 0, 0, 0, [])), (127, .iconst 0, 1, (0, 0, 0, 0, [])), (128, .istore 11, 2, (0, 0, 0, 0, [])), (130, .iload 11, 2, (0, 0, 0, 0, [])), (132, .iload 5, 2, (0, 0, 0, 0, [])), (134, .if_icmp .ge 101, 3, (235, 0, 0, 0, [])), (137, .iload 10, 2, (0, 0, 0, 0, [])), (139, .ifCond .ne 96, 3, (235, 0, 0, 0, [])), (142, .aload_n 0, 1, (0, 0, 0, 0, [])), (143, .getfield 16, 3, (8, 4, 0, 0, [])), (146, .bipush 40, 2, (0, 0, 40, 0, [])), (148, .iload_n 3, 1, (0, 0, 0, 0, [])), (149, .imul, 1, (0, 0, 0, 0, [])), (150, .iload 4, 2, (0, 0, 0, 0, [])), (152, .iadd, 1, (0, 0, 0, 0, [])), (153, .iload 11, 2, (0, 0, 0, 0, [])), (155, .iadd, 1, (0, 0, 0, 0, [])), (156, .iaload, 1, (0, 0, 0, 0, [])), (157, .istore 12, 2, (0, 0, 0, 0, [])), (159, .iload 12, 2, (0, 0, 0, 0, [])), (161, .i2l, 1, (0, 0, 0, 0, [])), (162, .lconst 0, 1, (0, 0, 0, 0, [])), (163, .ldc2_w 222, 3, (0, 0, 0, 4, [])), (166, .invokestatic 66, 3, (107, 3, 0, 0, [])), (169, .ifCond .eq 14, 3, (183, 0, 0, 0, [])), (172, .aload_n 0, 1, (0, 0, 0, 0, [])), (173, .iload 8, 2, (0, 0, 0, 0, [])), (175, .iload 12, 2, (0, 0, 0, 0, [])), (177, .invokevirtual 276, 3, (160, 2, 0, 0, [])), (180, .goto 5, 3, (185, 0, 0, 0, [])), (183, .ldc 92, 2, (0, 0, -1000000, 0, [])), (185, .istore 13, 2, (0, 0, 0, 0, [])), (187, .iload 13, 2, (0, 0, 0, 0, [])), (189, .ldc 92, 2, (0, 0, -1000000, 0, [])), (191, .if_icmp .ne 12, 3, (203, 0, 0, 0, [])), (194, .iload 11, 2, (0, 0, 0, 0, [])), (196, .iconst 1, 1, (0, 0, 1, 0, [])), (197, .iadd, 1, (0, 0, 0, 0, [])), (198, .istore 10, 2, (0, 0, 0, 0, [])), (200, .goto 29, 3, (229, 0, 0, 0, [])), (203, .iload 13, 2, (0, 0, 0, 0, [])), (205, .istore 8, 2, (0, 0, 0, 0, [])), (207, .iload 9, 2, (0, 0, 0, 0, [])), (209, .aload_n 0, 1, (0, 0, 0, 0, [])), (210, .iload 8, 2, (0, 0, 0, 0, [])), (212, .invokevirtual 279, 3, (162, 1, 0, 0, [])), (215, .aload_n 0, 1, (0, 0, 0, 0, [])), (216, .iload_n 2, 1, (0, 0, 0, 0, [])), (217, .iload 11, 2, (0, 0, 0, 0, [])), (219, .iadd, 1, (0, 0, 0, 0, [])), (220, .iconst 1, 1, (0, 0, 1, 0, [])), (221, .iadd, 1, (0, 0, 0, 0, [])), (222, .invokevirtual 263, 3, (155, 1, 0, 0, [])), (225, .iand, 1, (0, 0, 0, 0, [])), (226, .ior, 1, (0, 0, 0, 0, [])), (227, .istore 9, 2, (0, 0, 0, 0, [])), (229, .iinc 11 1, 3, (0, 0, 1, 0, [])), (232, .goto (-102), 3, (130, 0, 0, 0, [])), (235, .iload 6, 2, (0, 0, 0, 0, [])), (237, .ifCond .ne 8, 3, (245, 0, 0, 0, [])), (240, .iload 10, 2, (0, 0, 0, 0, [])), (242, .goto 5, 3, (247, 0, 0, 0, [])), (245, .iload 9, 2, (0, 0, 0, 0, [])), (247, .ireturn, 1, (0, 0, 0, 0, []))]
def g_k167 : List (Nat × g_I) := [(0, .iconst 0, 1, (0, 0, 0, 0, [])), (1, .istore 4, 2, (0, 0, 0, 0, [])), (3, .iload 4, 2, (0, 0, 0, 0, [])), (5, .bipush 81, 2, (0, 0, 81, 0, [])), (7, .if_icmp .ge 63, 3, (70, 0, 0, 0, [])), (10, .iconst 0, 1, (0, 0, 0, 0, [])), (11, .istore 5, 2, (0, 0, 0, 0, [])), (13, .iload 5, 2, (0, 0, 0, 0, [])), (15, .iconst 5, 1, (0, 0, 5, 0, [])), (16, .if_icmp .ge 48, 3, (64, 0, 0, 0, [])), (19, .aload_n 1, 1, (0, 0, 0, 0, [])), (20, .bipush 81, 2, (0, 0, 81, 0, [])), (22, .iload_n 2, 1, (0, 0, 0, 0, [])), (23, .imul, 1, (0, 0, 0, 0, [])), (24, .iload 4, 2, (0, 0, 0, 0, [])), (26, .iadd, 1, (0, 0, 0, 0, [])), (27, .baload, 1, (0, 0, 0, 0, [])), (28, .ifCond .eq 36, 3, (64, 0, 0, 0, [])), (31, .aload_n 0, 1, (0, 0, 0, 0, [])), (32, .iload 4, 2, (0, 0, 0, 0, [])), (34, .iload 5, 2, (0, 0, 0, 0, [])), (36, .invokevirtual 276, 3, (160, 2, 0, 0, [])), (39, .istore 6, 2, (0, 0, 0, 0, [])), (41, .iload 6, 2, (0, 0, 0, 0, [])), (43, .ldc 92, 2, (0, 0, -1000000, 0, [])), (45, .if_icmp .eq 13, 3, (58, 0, 0, 0, [])), (48, .aload_n 1, 1, (0, 0, 0, 0, [])), (49, .bipush 81, 2, (0, 0, 81, 0, [])), (51, .iload_n 3, 1, (0, 0, 0, 0, [])), (52, .imul, 1, (0, 0, 0, 0, [])), (53, .iload 6, 2, (0, 0, 0, 0, [])), (55, .iadd, 1, (0, 0, 0, 0, [])), (56, .iconst 1, 1, (0, 0, 1, 0, [])), (57, .bastore, 1, (0, 0, 0, 0, [])), (58, .iinc 5 1, 3, (0, 0, 1, 0, [])), (61, .goto (-48), 3, (13, 0, 0, 0, [])), (64, .iinc 4 1, 3, (0, 0, 1, 0, [])), (67, .goto (-64), 3, (3, 0, 0, 0, [])), (70, .return_, 1, (0, 0, 0, 0, []))]
def g_k168 : List (Nat × g_I) := [(0, .aload_n 0, 1, (0, 0, 0, 0, [])), (1, .iconst 0, 1, (0, 0, 0, 0, [])), (2, .putfield 56, 3, (8, 0, 0, 0, [])), (5, .aload_n 0, 1, (0, 0, 0, 0, [])), (6, .invokevirtual 198, 3, (134, 0, 0, 0, [])), (9, .ifCond .ne 6, 3, (15, 0, 0, 0, [])), (12, .ldc 202, 2, (0, 0, -1000002, 0, [])), (14, .ireturn, 1, (0, 0, 0, 0, [])), (15, .iload_n 1, 1, (0, 0, 0, 0, [])), (16, .invokestatic 224, 3, (136, 1, 0, 0, [])), (19, .ifCond .eq 31, 3, (50, 0, 0, 0, [])), (22, .iload_n 2, 1, (0, 0, 0, 0, [])), (23, .invokestatic 208, 3, (135, 1, 0, 0, [])), (26, .ifCond .eq 24, 3, (50, 0, 0, 0, [])), (29, .iload_n 3, 1, (0, 0, 0, 0, [])), (30, .invokestatic 224, 3, (136, 1, 0, 0, [])), (33, .ifCond .eq 17, 3, (50, 0, 0, 0, [])), (36, .iload 4, 2, (0, 0, 0, 0, [])), (38, .invokestatic 208, 3, (135, 1, 0, 0, [])), (41, .ifCond .eq 9, 3, (50, 0, 0, 0, [])), (44, .iload 4, 2, (0, 0, 0, 0, [])), (46, .iload_n 2, 1, (0, 0, 0, 0, [])), (47, .if_icmp .ge 6, 3, (53, 0, 0, 0, [])), (50, .ldc 76, 2, (0, 0, -1000001, 0, [])), (52, .ireturn, 1, (0, 0, 0, 0, [])), (53, .aload_n 0, 1, (0, 0, 0, 0, [])), (54, .iload_n 1, 1, (0, 0, 0, 0, [])), (55, .invokevirtual 282, 3, (161, 1, 0, 0, [])), (58, .ifCond .eq 11, 3, (69, 0, 0, 0, [])), (61, .aload_n 0, 1, (0, 0, 0, 0, [])), (62, .iload_n 3, 1, (0, 0, 0, 0, [])), (63, .invokevirtual 282, 3, (161, 1, 0, 0, [])), (66, .ifCond .ne 6, 3, (72, 0, 0, 0, [])), (69, .ldc 92, 2, (0, 0, -1000000, 0, [])), (71, .ireturn, 1, (0, 0, 0, 0, [])), (72, .iconst 0, 1, (0, 0, 0, 0, [])), (73, .istore 5, 2, (0, 0, 0, 0, [])), (75, .iload 5, 2, (0, 0, 0, 0, [])), (77, .sipush 5913, 3, (0, 0, 5913, 0, [])), (80, .if_icmp .ge 56, 3, (136, 0, 0, 0, [])), (83, .aload_n 0, 1, (0, 0, 0, 0, [])), (84, .getfield 38, 3, (8, 20, 0, 0, [])), (87, .iload 5, 2, (0, 0, 0, 0, [])), (89, .iload 5, 2, (0, 0, 0, 0, [])), (91, .bipush 81, 2, (0, 0, 81, 0, [])), (93, .iload_n 2, 1, (0, 0, 0, 0, [])), (94, .imul, 1, (0, 0, 0, 0, [])), (95, .iload_n 1, 1, (0, 0, 0, 0, [])), (96, .iadd, 1, (0, 0, 0, 0, [])), (97, .if_icmp .ne 7, 3, (104, 0, 0, 0, [])), (100, .iconst 1, 1, (0, 0, 1, 0, [])), (101, .goto 4, 3, (105, 0, 0, 0, [])), (104, .iconst 0, 1, (0, 0, 0, 0, [])), (105, .bastore, 1, (0, 0, 0, 0, [])), (106, .aload_n 0, 1, (0, 0, 0, 0, [])), (107, .getfield 41, 3, (8, 21, 0, 0, [])), (110, .iload 5, 2, (0, 0, 0, 0, [])), (112, .iload 5, 2, (0, 0, 0, 0, [])), (114, .bipush 81, 2, (0, 0, 81, 0, [])), (116, .iload 4, 2, (0, 0, 0, 0, [])), (118, .imul, 1, (0, 0, 0, 0, [])), (119, .iload_n 3, 1, (0, 0, 0, 0, [])), (120, .iadd, 1, (0, 0, 0, 0, [])), (121, .if_icmp .ne 7, 3, (128, 0, 0, 0, [])), (124, .iconst 1, 1, (0, 0, 1, 0, [])), (125, .goto 4, 3, (129, 0, 0, 0, [])), (128, .iconst 0, 1, (0, 0, 0, 0, [])), (129, .bastore, 1, (0, 0, 0, 0, [])), (130, .iinc 5 1, 3, (0, 0, 1, 0, [])), (133, .goto (-58), 3, (75, 0, 0, 0, [])), (136, .iload_n 2, 1, (0, 0, 0, 0, [])), (137, .istore 5, 2, (0, 0, 0, 0, [])), (139, .iload 5, 2, (0, 0, 0, 0, [])), (141, .iload 4, 2, (0, 0, 0, 0, [])), (143, .if_icmp .ge 23, 3, (166, 0, 0, 0, [])), (146, .aload_n 0, 1, (0, 0, 0, 0, [])), (147, .aload_n 0, 1, (0, 0, 0, 0, [])), (148, .getfield 38, 3, (8, 20, 0, 0, [])), (151, .iload 5, 2, (0, 0, 0, 0, [])), (153, .iload 5, 2, (0, 0, 0, 0, [])), (155, .iconst 1, 1, (0, 0, 1, 0, [])), (156, .iadd, 1, (0, 0, 0, 0, [])), (157, .invokevirtual 295, 3, (167, 3, 0, 0, [])), (160, .iinc 5 1, 3, (0, 0, 1, 0, [])), (163, .goto (-24), 3, (139, 0, 0, 0, [])), (166, .iload 4, 2, (0, 0, 0, 0, [])), (168, .istore 5, 2, (0, 0, 0, 0, [])), (170, .iload 5, 2, (0, 0, 0, 0, [])), (172, .iload_n 2, 1, (0, 0, 0, 0, [])), (173, .if_icmp .le 23, 3, (196, 0, 0, 0, [])), (176, .aload_n 0, 1, (0, 0, 0, 0, [])), (177, .aload_n 0, 1, (0, 0, 0, 0, [])), (178, .getfield 41, 3, (8, 21, 0, 0, [])), (181, .iload 5, 2, (0, 0, 0, 0, [])), (183, .iload 5, 2, (0, 0, 0, 0, [])), (185, .iconst 1, 1, (0, 0, 1, 0, [])), (186, .isub, 1, (0, 0, 0, 0, [])), (187, .invokevirtual 295, 3, (167, 3, 0, 0, [])), (190, .iinc 5 (-1), 3, (0, 0, -1, 0, [])), (193, .goto (-23), 3, (170, 0, 0, 0, [])), (196, .aload_n 0, 1, (0, 0, 0, 0, [])), (197, .getfield 38, 3, (8, 20, 0, 0, [])), (200, .bipush 81, 2, (0, 0, 81, 0, [])), (202, .iload 4, 2, (0, 0, 0, 0, [])), (204, .imul, 1, (0, 0, 0, 0, [])), (205, .iload_n 3, 1, (0, 0, 0, 0, [])), (206, .iadd, 1, (0, 0, 0, 0, [])), (207, .baload, 1, (0, 0, 0, 0, [])), (208, .ifCond .ne 6, 3, (214, 0, 0, 0, [])), (211, .ldc 92, 2, (0, 0, -1000000, 0, [])), (213, .ireturn, 1, (0, 0, 0, 0, [])), (214, .iconst 0, 1, (0, 0, 0, 0, [])), (215, .istore 5, 2, (0, 0, 0, 0, [])), (217, .iload_n 2, 1, (0, 0, 0, 0, [])), (218, .istore 6, 2, (0, 0, 0, 0, [])), (220, .iload 6, 2, (0, 0, 0, 0, [])), (222, .iload 4, 2, (0, 0, 0, 0, [])), (224, .if_icmp .gt 83, 3, (307, 0, 0, 0, [])), (227, .aload_n 0, 1, (0, 0, 0, 0, [])), (228, .iload 6, 2, (0, 0, 0, 0, [])), (230, .invokevirtual 263, 3, (155, 1, 0, 0, [])), (233, .istore 7, 2, (0, 0, 0, 0, [])), (235, .iconst 0, 1, (0, 0, 0, 0, [])), (236, .istore 8, 2, (0, 0, 0, 0, [])), (238, .iload 8, 2, (0, 0, 0, 0, [])), (240, .bipush 81, 2, (0, 0, 81, 0, [])), (242, .if_icmp .ge 59, 3, (301, 0, 0, 0, [])), (245, .iload 5, 2, (0, 0, 0, 0, [])), (247, .aload_n 0, 1, (0, 0, 0, 0, [])), (248, .getfield 38, 3, (8, 20, 0, 0, [])), (251, .bipush 81, 2, (0, 0, 81, 0, [])), (253, .iload 6, 2, (0, 0, 0, 0, [])), (255, .imul, 1, (0, 0, 0, 0, [])), (256, .iload 8, 2, (0, 0, 0, 0, [])), (258, .iadd, 1, (0, 0, 0, 0, [])), (259, .baload, 1, (0, 0, 0, 0, [])), (260, .ifCond .eq 31, 3, (291, 0, 0, 0, [])), (263, .aload_n 0, 1, (0, 0, 0, 0, [])), (264, .getfield 41, 3, (8, 21, 0, 0, [])), (267, .bipush 81, 2, (0, 0, 81, 0, [])), (269, .iload 6, 2, (0, 0, 0, 0, [])), (271, .imul, 1, (0, 0, 0, 0, [])), (272, .iload 8, 2, (0, 0, 0, 0, [])), (274, .iadd, 1, (0, 0, 0, 0, [])), (275, .baload, 1, (0, 0, 0, 0, [])), (276, .ifCond .eq 15, 3, (291, 0, 0, 0, [])), (279, .aload_n 0, 1, (0, 0, 0, 0, [])), (280, .iload 8, 2, (0, 0, 0, 0, [])), (282, .invokevirtual 279, 3, (162, 1, 0, 0, [])), (285, .iload 7, 2, (0, 0, 0, 0, [])), (287, .iand, 1, (0, 0, 0, 0, [])), (288, .goto 4, 3, (292, 0, 0, 0, [])), (291, .iconst 0, 1, (0, 0, 0, 0, [])), (292, .ior, 1, (0, 0, 0, 0, [])), (293, .istore 5, 2, (0, 0, 0, 0, [])), (295, .iinc 8 1, 3, (0, 0, 1, 0, [])), (298, .goto (-60), 3, (238, 0, 0, 0, [])), (301, .iinc 6 1, 3, (0, 0, 1, 0, [])), (304, .goto (-84), 3, (220, 0, 0, 0, [])), (307, .iload 5, 2, (0, 0, 0, 0, [])), (309, .ireturn, 1, (0, 0, 0, 0, []))]
def g_k169 : List (Nat × g_I) := [(0, .aload_n 0, 1, (0, 0, 0, 0, [])), (1, .iconst 0, 1, (0, 0, 0, 0, [])), (2, .putfield 56, 3, (8, 0, 0, 0, [])), (5, .aload_n 0, 1, (0, 0, 0, 0, [])), (6, .invokevirtual 198, 3, (134, 0, 0, 0, [])), (9, .ifCond .ne 6, 3, (15, 0, 0, 0, [])), (12, .ldc 202, 2, (0, 0, -1000002, 0, [])), (14, .ireturn, 1, (0, 0, 0, 0, [])), (15, .iload_n 1, 1, (0, 0, 0, 0, [])), (16, .i2l, 1, (0, 0, 0, 0, [])), (17, .lconst 0, 1, (0, 0, 0, 0, [])), (18, .ldc2_w 222, 3, (0, 0, 0, 4, [])), (21, .invokestatic 66, 3, (107, 3, 0, 0, [])), (24, .ifCond .eq 13, 3, (37, 0, 0, 0, [])), (27, .iload_n 2, 1, (0, 0, 0, 0, [])), (28, .i2l, 1, (0, 0, 0, 0, [])), (29, .lconst 0, 1, (0, 0, 0, 0, [])), (30, .lconst 1, 1, (0, 0, 0, 1, [])), (31, .invokestatic 66, 3, (107, 3, 0, 0, [])), (34, .ifCond .ne 6, 3, (40, 0, 0, 0, [])), (37, .ldc 76, 2, (0, 0, -1000001, 0, [])), (39, .ireturn, 1, (0, 0, 0, 0, [])), (40, .iconst 0, 1, (0, 0, 0, 0, [])), (41, .istore_n 3, 1, (0, 0, 0, 0, [])), (42, .iload_n 3, 1, (0, 0, 0, 0, [])), (43, .bipush 81, 2, (0, 0, 81, 0, [])), (45, .if_icmp .ge 16, 3, (61, 0, 0, 0, [])), (48, .aload_n 0, 1, (0, 0, 0, 0, [])), (49, .getfield 44, 3, (8, 22, 0, 0, [])), (52, .iload_n 3, 1, (0, 0, 0, 0, [])), (53, .iconst 0, 1, (0, 0, 0, 0, [])), (54, .iastore, 1, (0, 0, 0, 0, [])), (55, .iinc 3 1, 3, (0, 0, 1, 0, [])), (58, .goto (-16), 3, (42, 0, 0, 0, [])), (61, .iconst 0, 1, (0, 0, 0, 0, [])), (62, .istore_n 3, 1, (0, 0, 0, 0, [])), (63, .iload_n 3, 1, (0, 0, 0, 0, [])), (64, .bipush 72, 2, (0, 0, 72, 0, [])), (66, .if_icmp .gt 71, 3, (137, 0, 0, 0, [])), (69, .aload_n 0, 1, (0, 0, 0, 0, [])), (70, .iload_n 3, 1, (0, 0, 0, 0, [])), (71, .invokevirtual 239, 3, (149, 1, 0, 0, [])), (74, .iconst 0, 1, (0, 0, 0, 0, [])), (75, .istore 4, 2, (0, 0, 0, 0, [])), (77, .iload 4, 2, (0, 0, 0, 0, [])), (79, .bipush 81, 2, (0, 0, 81, 0, [])), (81, .if_icmp .ge 50, 3, (131, 0, 0, 0, [])), (84, .aload_n 0, 1, (0, 0, 0, 0, [])), (85, .getfield 44, 3, (8, 22, 0, 0, [])), (88, .iload 4, 2, (0, 0, 0, 0, [])), (90, .dup2, 1, (0, 0, 0, 0, [])), (91, .iaload, 1, (0, 0, 0, 0, [])), (92, .aload_n 0, 1, (0, 0, 0, 0, [])), (93, .getfield 19, 3, (8, 5, 0, 0, [])), (96, .bipush 112, 2, (0, 0, 112, 0, [])), (98, .iload_n 3, 1, (0, 0, 0, 0, [])), (99, .iadd, 1, (0, 0, 0, 0, [])), (100, .iaload, 1, (0, 0, 0, 0, [])), (101, .ifCond .ne 21, 3, (122, 0, 0, 0, [])), (104, .aload_n 0, 1, (0, 0, 0, 0, [])), (105, .iload_n 1, 1, (0, 0, 0, 0, [])), (106, .invokestatic 229, 3, (144, 1, 0, 0, [])), (109, .iload 4, 2, (0, 0, 0, 0, [])), (111, .iload_n 3, 1, (0, 0, 0, 0, [])), (112, .invokevirtual 256, 3, (151, 3, 0, 0, [])), (115, .ifCond .eq 7, 3, (122, 0, 0, 0, [])), (118, .iconst 1, 1, (0, 0, 1, 0, [])), (119, .goto 4, 3, (123, 0, 0, 0, [])), (122, .iconst 0, 1, (0, 0, 0, 0, [])), (123, .iadd, 1, (0, 0, 0, 0, [])), (124, .iastore, 1, (0, 0, 0, 0, [])), (125, .iinc 4 1, 3, (0, 0, 1, 0, [])), (128, .goto (-51), 3, (77, 0, 0, 0, [])), (131, .iinc 3 1, 3, (0, 0, 1, 0, [])), (134, .goto (-71), 3, (63, 0, 0, 0, [])), (137, .ldc 92, 2, (0, 0, -1000000, 0, [])), (139, .istore_n 3, 1, (0, 0, 0, 0, [])), (140, .iconst 0, 1, (0, 0, 0, 0, [])), (141, .istore 4, 2, (0, 0, 0, 0, [])), (143, .iload 4, 2, (0, 0, 0, 0, [])), (145, .bipush 81, 2, (0, 0, 81, 0, [])), (147, .if_icmp .ge 50, 3, (197, 0, 0, 0, [])), (150, .aload_n 0, 1, (0, 0, 0, 0, [])), (151, .getfield 19, 3, (8, 5, 0, 0, [])), (154, .iload 4, 2, (0, 0, 0, 0, [])), (156, .invokestatic 166, 3, (128, 2, 0, 0, [])), (159, .ifCond .eq 30, 3, (189, 0, 0, 0, [])), (162, .iload_n 3, 1, (0, 0, 0, 0, [])), (163, .ldc 92, 2, (0, 0, -1000000, 0, [])), (165, .if_icmp .eq 19, 3, (184, 0, 0, 0, [])), (168, .aload_n 0, 1, (0, 0, 0, 0, [])), (169, .getfield 44, 3, (8, 22, 0, 0, [])), (172, .iload 4, 2, (0, 0, 0, 0, [])), (174, .iaload, 1, (0, 0, 0, 0, [])), (175, .aload_n 0, 1, (0, 0, 0, 0, [])), (176, .getfield 44, 3, (8, 22, 0, 0, [])), (179, .iload_n 3, 1, (0, 0, 0, 0, [])), (180, .iaload, 1, (0, 0, 0, 0, [])), (181, .if_icmp .le 8, 3, (189, 0, 0, 0, [])), (184, .iload 4, 2, (0, 0, 0, 0, [])), (186, .goto 4, 3, (190, 0, 0, 0, [])), (189, .iload_n 3, 1, (0, 0, 0, 0, [])), (190, .istore_n 3, 1, (0, 0, 0, 0, [])), (191, .iinc 4 1, 3, (0, 0, 1, 0, [])), (194, .goto (-51), 3, (143, 0, 0, 0, [])), (197, .iload_n 3, 1, (0, 0, 0, 0, [])), (198, .ldc 92, 2, (0, 0, -1000000, 0, [])), (200, .if_icmp .eq 7, 3, (207, 0, 0, 0, [])), (203, .iload_n 2, 1, (0, 0, 0, 0, [])), (204, .ifCond .ne 7, 3, (211, 0, 0, 0, [])), (207, .iload_n 3, 1, (0, 0, 0, 0, [])), (208, .goto 9, 3, (217, 0, 0, 0, [])), (211, .aload_n 0, 1, (0, 0, 0, 0, [])), (212, .getfield 44, 3, (8, 22, 0, 0, [])), (215, .iload_n 3, 1, (0, 0, 0, 0, [])), (216, .iaload, 1, (0, 0, 0, 0, [])), (217, .ireturn, 1, (0, 0, 0, 0, []))]
def g_k170 : List (Nat × g_I) := [(0, .aload_n 0, 1, (0, 0, 0, 0, [])), (1, .iconst 0, 1, (0, 0, 0, 0, [])), (2, .putfield 56, 3, (8, 0, 0, 0, [])), (5, .aload_n 0, 1, (0, 0, 0, 0, [])), (6, .invokevirtual 198, 3, (134, 0, 0, 0, [])), (9, .ifCond .ne 6, 3, (15, 0, 0, 0, [])), (12, .ldc 202, 2, (0, 0, -1000002, 0, [])), (14, .ireturn, 1, (0, 0, 0, 0, [])), (15, .iload_n 1, 1, (0, 0, 0, 0, [])), (16, .invokestatic 208, 3, (135, 1, 0, 0, [])), (19, .ifCond .eq 24, 3, (43, 0, 0, 0, [])), (22, .iload_n 2, 1, (0, 0, 0, 0, [])), (23, .i2l, 1, (0, 0, 0, 0, [])), (24, .lconst 0, 1, (0, 0, 0, 0, [])), (25, .iconst 1, 1, (0, 0, 1, 0, [])), (26, .aload_n 0, 1, (0, 0, 0, 0, [])), (27, .getfield 19, 3, (8, 5, 0, 0, [])), (30, .bipush 6, 2, (0, 0, 6, 0, [])), (32, .iaload, 1, (0, 0, 0, 0, [])), (33, .ishl, 1, (0, 0, 0, 0, [])), (34, .iconst 1, 1, (0, 0, 1, 0, [])), (35, .isub, 1, (0, 0, 0, 0, [])), (36, .i2l, 1, (0, 0, 0, 0, [])), (37, .invokestatic 66, 3, (107, 3, 0, 0, [])), (40, .ifCond .ne 6, 3, (46, 0, 0, 0, [])), (43, .ldc 76, 2, (0, 0, -1000001, 0, [])), (45, .ireturn, 1, (0, 0, 0, 0, [])), (46, .iconst 0, 1, (0, 0, 0, 0, [])), (47, .istore_n 3, 1, (0, 0, 0, 0, [])), (48, .iconst 1, 1, (0, 0, 1, 0, [])), (49, .istore 4, 2, (0, 0, 0, 0, [])), (51, .iload 4, 2, (0, 0, 0, 0, [])), (53, .bipush 6, 2, (0, 0, 6, 0, [])), (55, .if_icmp .gt 48, 3, (103, 0, 0, 0, [])), (58, .aload_n 0, 1, (0, 0, 0, 0, [])), (59, .iload_n 1, 1, (0, 0, 0, 0, [])), (60, .iload 4, 2, (0, 0, 0, 0, [])), (62, .aload_n 0, 1, (0, 0, 0, 0, [])), (63, .getfield 19, 3, (8, 5, 0, 0, [])), (66, .iconst 2, 1, (0, 0, 2, 0, [])), (67, .iaload, 1, (0, 0, 0, 0, [])), (68, .aload_n 0, 1, (0, 0, 0, 0, [])), (69, .getfield 19, 3, (8, 5, 0, 0, [])), (72, .iconst 3, 1, (0, 0, 3, 0, [])), (73, .iaload, 1, (0, 0, 0, 0, [])), (74, .invokevirtual 235, 3, (148, 4, 0, 0, [])), (77, .iload_n 3, 1, (0, 0, 0, 0, [])), (78, .aload_n 0, 1, (0, 0, 0, 0, [])), (79, .iload_n 1, 1, (0, 0, 0, 0, [])), (80, .invokevirtual 260, 3, (154, 1, 0, 0, [])), (83, .iload_n 2, 1, (0, 0, 0, 0, [])), (84, .if_icmp .ne 10, 3, (94, 0, 0, 0, [])), (87, .iconst 1, 1, (0, 0, 1, 0, [])), (88, .iload 4, 2, (0, 0, 0, 0, [])), (90, .ishl, 1, (0, 0, 0, 0, [])), (91, .goto 4, 3, (95, 0, 0, 0, [])), (94, .iconst 0, 1, (0, 0, 0, 0, [])), (95, .ior, 1, (0, 0, 0, 0, [])), (96, .istore_n 3, 1, (0, 0, 0, 0, [])), (97, .iinc 4 1, 3, (0, 0, 1, 0, [])), (100, .goto (-49), 3, (51, 0, 0, 0, [])), (103, .iload_n 3, 1, (0, 0, 0, 0, [])), (104, .ireturn, 1, (0, 0, 0, 0, []))]
def g_k171 : List (Nat × g_I) := [(0, .aload_n 0, 1, (0, 0, 0, 0, [])), (1, .iconst 0, 1, (0, 0, 0, 0, [])), (2, .putfield 56, 3, (8, 0, 0, 0, [])), (5, .aload_n 0, 1, (0, 0, 0, 0, [])), (6, .iload_n 1, 1, (0, 0, 0, 0, [])), (7, .invokevirtual 270, 3, (138, 1, 0, 0, [])), (10, .ifCond .eq 17, 3, (27, 0, 0, 0, [])), (13, .iload_n 2, 1, (0, 0, 0, 0, [])), (14, .invokestatic 205, 3, (137, 1, 0, 0, [])), (17, .ifCond .eq 10, 3, (27, 0, 0, 0, [])), (20, .iload_n 3, 1, (0, 0, 0, 0, [])), (21, .invokestatic 205, 3, (137, 1, 0, 0, [])), (24, .ifCond .ne 6, 3, (30, 0, 0, 0, [])), (27, .ldc 76, 2, (0, 0, -1000001, 0, [])), (29, .ireturn, 1, (0, 0, 0, 0, [])), (30, .aload_n 0, 1, (0, 0, 0, 0, [])), (31, .iload_n 1, 1, (0, 0, 0, 0, [])), (32, .aload_n 0, 1, (0, 0, 0, 0, [])), (33, .getfield 19, 3, (8, 5, 0, 0, [])), (36, .iconst 4, 1, (0, 0, 4, 0, [])), (37, .iaload, 1, (0, 0, 0, 0, [])), (38, .iload_n 2, 1, (0, 0, 0, 0, [])), (39, .iload_n 3, 1, (0, 0, 0, 0, [])), (40, .iconst 1, 1, (0, 0, 1, 0, [])), (41, .invokevirtual 266, 3, (157, 5, 0, 0, [])), (44, .aload_n 0, 1, (0, 0, 0, 0, [])), (45, .iload_n 1, 1, (0, 0, 0, 0, [])), (46, .invokevirtual 273, 3, (158, 1, 0, 0, [])), (49, .isub, 1, (0, 0, 0, 0, [])), (50, .ireturn, 1, (0, 0, 0, 0, []))]
def g_k172 : List (Nat × g_I) := [(0, .aload_n 0, 1, (0, 0, 0, 0, [])), (1, .iconst 0, 1, (0, 0, 0, 0, [])), (2, .putfield 56, 3, (8, 0, 0, 0, [])), (5, .iload_n 1, 1, (0, 0, 0, 0, [])), (6, .i2l, 1, (0, 0, 0, 0, [])), (7, .lconst 0, 1, (0, 0, 0, 0, [])), (8, .lconst 1, 1, (0, 0, 0, 1, [])), (9, .invokestatic 66, 3, (107, 3, 0, 0, [])), (12, .ifCond .ne 6, 3, (18, 0, 0, 0, [])), (15, .ldc 76, 2, (0, 0, -1000001, 0, [])), (17, .ireturn, 1, (0, 0, 0, 0, [])), (18, .aload_n 0, 1, (0, 0, 0, 0, [])), (19, .invokevirtual 198, 3, (134, 0, 0, 0, [])), (22, .ifCond .ne 6, 3, (28, 0, 0, 0, [])), (25, .ldc 202, 2, (0, 0, -1000002, 0, [])), (27, .ireturn, 1, (0, 0, 0, 0, [])), (28, .iconst 0, 1, (0, 0, 0, 0, [])), (29, .istore_n 2, 1, (0, 0, 0, 0, [])), (30, .iload_n 2, 1, (0, 0, 0, 0, [])), (31, .sipush 185, 3, (0, 0, 185, 0, [])), (34, .if_icmp .ge 27, 3, (61, 0, 0, 0, [])), (37, .aload_n 0, 1, (0, 0, 0, 0, [])), (38, .getfield 50, 3, (8, 24, 0, 0, [])), (41, .sipush 185, 3, (0, 0, 185, 0, [])), (44, .iload_n 1, 1, (0, 0, 0, 0, [])), (45, .imul, 1, (0, 0, 0, 0, [])), (46, .iload_n 2, 1, (0, 0, 0, 0, [])), (47, .iadd, 1, (0, 0, 0, 0, [])), (48, .aload_n 0, 1, (0, 0, 0, 0, [])), (49, .getfield 19, 3, (8, 5, 0, 0, [])), (52, .iload_n 2, 1, (0, 0, 0, 0, [])), (53, .iaload, 1, (0, 0, 0, 0, [])), (54, .iastore, 1, (0, 0, 0, 0, [])), (55, .iinc 2 1, 3, (0, 0, 1, 0, [])), (58, .goto (-28), 3, (30, 0, 0, 0, [])), (61, .aload_n 0, 1, (0, 0, 0, 0, [])), (62, .getfield 47, 3, (8, 23, 0, 0, [])), (65, .iload_n 1, 1, (0, 0, 0, 0, [])), (66, .iconst 1, 1, (0, 0, 1, 0, [])), (67, .bastore, 1, (0, 0, 0, 0, [])), (68, .iconst 1, 1, (0, 0, 1, 0, [])), (69, .ireturn, 1, (0, 0, 0, 0, []))]
def g_k173 : List (Nat × g_I) := [(0, .aload_n 0, 1, (0, 0, 0, 0, [])), (1, .iconst 0, 1, (0, 0, 0, 0, [])), (2, .putfield 56, 3, (8, 0, 0, 0, [])), (5, .iload_n 1, 1, (0, 0, 0, 0, [])), (6, .i2l, 1, (0, 0, 0, 0, [])), (7, .lconst 0, 1, (0, 0, 0, 0, [])), (8, .lconst 1, 1, (0, 0, 0, 1, [])), (9, .invokestatic 66, 3, (107, 3, 0, 0, [])), (12, .ifCond .ne 6, 3, (18, 0, 0, 0, [])), (15, .ldc 76, 2, (0, 0, -1000001, 0, [])), (17, .ireturn, 1, (0, 0, 0, 0, [])), (18, .aload_n 0, 1, (0, 0, 0, 0, [])), (19, .getfield 47, 3, (8, 23, 0, 0, [])), (22, .iload_n 1, 1, (0, 0, 0, 0, [])), (23, .baload, 1, (0, 0, 0, 0, [])), (24, .ifCond .ne 6, 3, (30, 0, 0, 0, [])), (27, .ldc 202, 2, (0, 0, -1000002, 0, [])), (29, .ireturn, 1, (0, 0, 0, 0, [])), (30, .iconst 0, 1, (0, 0, 0, 0, [])), (31, .istore_n 2, 1, (0, 0, 0, 0, [])), (32, .iload_n 2, 1, (0, 0, 0, 0, [])), (33, .sipush 185, 3, (0, 0, 185, 0, [])), (36, .if_icmp .ge 27, 3, (63, 0, 0, 0, [])), (39, .aload_n 0, 1, (0, 0, 0, 0, [])), (40, .getfield 19, 3, (8, 5, 0, 0, [])), (43, .iload_n 2, 1, (0, 0, 0, 0, [])), (44, .aload_n 0, 1, (0, 0, 0, 0, [])), (45, .getfield 50, 3, (8, 24, 0, 0, [])), (48, .sipush 185, 3, (0, 0, 185, 0, [])), (51, .iload_n 1, 1, (0, 0, 0, 0, [])), (52, .imul, 1, (0, 0, 0, 0, [])), (53, .iload_n 2, 1, (0, 0, 0, 0, [])), (54, .iadd, 1, (0, 0, 0, 0, [])), (55, .iaload, 1, (0, 0, 0, 0, [])), (56, .iastore, 1, (0, 0, 0, 0, [])), (57, .iinc 2 1, 3, (0, 0, 1, 0, [])), (60, .goto (-28), 3, (32, 0, 0, 0, [])), (63, .iconst 1, 1, (0, 0, 1, 0, [])), (64, .ireturn, 1, (0, 0, 0, 0, []))]
def g_k174 : List (Nat × g_I) := [(0, .iload_n 1, 1, (0, 0, 0, 0, [])), (1, .ifCond .eq 38, 3, (39, 0, 0, 0, [])), (4, .iload_n 0, 1, (0, 0, 0, 0, [])), (5, .iload_n 1, 1, (0, 0, 0, 0, [])), (6, .if_icmp .eq 33, 3, (39, 0, 0, 0, [])), (9, .iload_n 1, 1, (0, 0, 0, 0, [])), (10, .iconst 1, 1, (0, 0, 1, 0, [])), (11, .if_icmp .ne 8, 3, (19, 0, 0, 0, [])), (14, .iload_n 0, 1, (0, 0, 0, 0, [])), (15, .iconst 4, 1, (0, 0, 4, 0, [])), (16, .if_icmp .lt 23, 3, (39, 0, 0, 0, [])), (19, .iload_n 1, 1, (0, 0, 0, 0, [])), (20, .iconst 2, 1, (0, 0, 2, 0, [])), (21, .if_icmp .ne 8, 3, (29, 0, 0, 0, [])), (24, .iload_n 0, 1, (0, 0, 0, 0, [])), (25, .iconst 3, 1, (0, 0, 3, 0, [])), (26, .if_icmp .eq 13, 3, (39, 0, 0, 0, [])), (29, .iload_n 1, 1, (0, 0, 0, 0, [])), (30, .iconst 4, 1, (0, 0, 4, 0, [])), (31, .if_icmp .ne 12, 3, (43, 0, 0, 0, [])), (34, .iload_n 0, 1, (0, 0, 0, 0, [])), (35, .iconst 5, 1, (0, 0, 5, 0, [])), (36, .if_icmp .ne 7, 3, (43, 0, 0, 0, [])), (39, .iconst 1, 1, (0, 0, 1, 0, [])), (40, .goto 4, 3, (44, 0, 0, 0, [])), (43, .iconst 0, 1, (0, 0, 0, 0, [])), (44, .ireturn, 1, (1, 0, 0, 0, []))]
def g_k175 : List (Nat × g_I) := [(0, .aload_n 0, 1, (0, 0, 0, 0, [])), (1, .iconst 0, 1, (0, 0, 0, 0, [])), (2, .putfield 56, 3, (8, 0, 0, 0, [])), (5, .aload_n 0, 1, (0, 0, 0, 0, [])), (6, .iload_n 1, 1, (0, 0, 0, 0, [])), (7, .invokevirtual 270, 3, (138, 1, 0, 0, [])), (10, .ifCond .eq 11, 3, (21, 0, 0, 0, [])), (13, .aload_n 0, 1, (0, 0, 0, 0, [])), (14, .iload_n 1, 1, (0, 0, 0, 0, [])), (15, .invokevirtual 250, 3, (152, 1, 0, 0, [])), (18, .goto 5, 3, (23, 0, 0, 0, [])), (21, .ldc 76, 2, (0, 0, -1000001, 0, [])), (23, .ireturn, 1, (0, 0, 0, 0, []))]
def g_k176 : List (Nat × g_I) := [(0, .aload_n 0, 1, (0, 0, 0, 0, [])), (1, .iconst 0, 1, (0, 0, 0, 0, [])), (2, .putfield 56, 3, (8, 0, 0, 0, [])), (5, .aload_n 0, 1, (0, 0, 0, 0, [])), (6, .iload_n 1, 1, (0, 0, 0, 0, [])), (7, .invokevirtual 270, 3, (138, 1, 0, 0, [])), (10, .ifCond .eq 15, 3, (25, 0, 0, 0, [])), (13, .iload_n 2, 1, (0, 0, 0, 0, [])), (14, .i2l, 1, (0, 0, 0, 0, [])), (15, .lconst 0, 1, (0, 0, 0, 0, [])), (16, .ldc2_w 299, 3, (0, 0, 0, 5, [])), (19, .invokestatic 66, 3, (107, 3, 0, 0, [])), (22, .ifCond .ne 6, 3, (28, 0, 0, 0, [])), (25, .ldc 76, 2, (0, 0, -1000001, 0, [])), (27, .ireturn, 1, (0, 0, 0, 0, [])), (28, .aload_n 0, 1, (0, 0, 0, 0, [])), (29, .iconst 0, 1, (0, 0, 0, 0, [])), (30, .putfield 60, 3, (8, 1, 0, 0, [])), (33, .aload_n 0, 1, (0, 0, 0, 0, [])), (34, .iload_n 1, 1, (0, 0, 0, 0, [])), (35, .invokevirtual 250, 3, (152, 1, 0, 0, [])), (38, .iload_n 2, 1, (0, 0, 0, 0, [])), (39, .invokestatic 301, 3, (174, 2, 0, 0, [])), (42, .ifCond .eq 7, 3, (49, 0, 0, 0, [])), (45, .iload_n 1, 1, (0, 0, 0, 0, [])), (46, .goto 8, 3, (54, 0, 0, 0, [])), (49, .aload_n 0, 1, (0, 0, 0, 0, [])), (50, .iconst 3, 1, (0, 0, 3, 0, [])), (51, .invokevirtual 77, 3, (108, 1, 0, 0, [])), (54, .ireturn, 1, (0, 0, 0, 0, []))]
def g_k177 : List (Nat × g_I) := [(0, .aload_n 0, 1, (0, 0, 0, 0, [])), (1, .getfield 304, 3, (8, 26, 0, 0, [])), (4, .bipush 16, 2, (0, 0, 16, 0, [])), (6, .if_icmp .ge 23, 3, (29, 0, 0, 0, [])), (9, .aload_n 0, 1, (0, 0, 0, 0, [])), (10, .getfield 53, 3, (8, 25, 0, 0, [])), (13, .aload_n 0, 1, (0, 0, 0, 0, [])), (14, .getfield 304, 3, (8, 26, 0, 0, [])), (17, .iload_n 1, 1, (0, 0, 0, 0, [])), (18, .iastore, 1, (0, 0, 0, 0, [])), (19, .aload_n 0, 1, (0, 0, 0, 0, [])), (20, .dup, 1, (0, 0, 0, 0, [])), (21, .getfield 304, 3, (8, 26, 0, 0, [])), (24, .iconst 1, 1, (0, 0, 1, 0, [])), (25, .iadd, 1, (0, 0, 0, 0, [])), (26, .putfield 304, 3, (8, 26, 0, 0, [])), (29, .return_, 1, (0, 0, 0, 0, []))]
def g_k178 : List (Nat × g_I) := [(0, .aload_n 0, 1, (0, 0, 0, 0, [])), (1, .bipush 10, 2, (0, 0, 10, 0, [])), (3, .invokevirtual 307, 3, (177, 1, 0, 0, [])), (6, .aload_n 0, 1, (0, 0, 0, 0, [])), (7, .getfield 19, 3, (8, 5, 0, 0, [])), (10, .bipush 88, 2, (0, 0, 88, 0, [])), (12, .iconst 3, 1, (0, 0, 3, 0, [])), (13, .iload_n 1, 1, (0, 0, 0, 0, [])), (14, .imul, 1, (0, 0, 0, 0, [])), (15, .iadd, 1, (0, 0, 0, 0, [])), (16, .iconst 2, 1, (0, 0, 2, 0, [])), (17, .iadd, 1, (0, 0, 0, 0, [])), (18, .iaload, 1, (0, 0, 0, 0, [])), (19, .ireturn, 1, (0, 0, 0, 0, []))]
def g_k179 : List (Nat × g_I) := [(0, .aload_n 0, 1, (0, 0, 0, 0, [])), (1, .iload_n 1, 1, (0, 0, 0, 0, [])), (2, .invokevirtual 250, 3, (152, 1, 0, 0, [])), (5, .iconst 5, 1, (0, 0, 5, 0, [])), (6, .if_icmp .ne 9, 3, (15, 0, 0, 0, [])), (9, .aload_n 0, 1, (0, 0, 0, 0, [])), (10, .bipush 14, 2, (0, 0, 14, 0, [])), (12, .invokevirtual 307, 3, (177, 1, 0, 0, [])), (15, .aload_n 0, 1, (0, 0, 0, 0, [])), (16, .bipush 13, 2, (0, 0, 13, 0, [])), (18, .invokevirtual 307, 3, (177, 1, 0, 0, [])), (21, .aload_n 0, 1, (0, 0, 0, 0, [])), (22, .iload_n 1, 1, (0, 0, 0, 0, [])), (23, .invokevirtual 310, 3, (178, 1, 0, 0, [])), (26, .bipush 100, 2, (0, 0, 100, 0, [])), (28, .isub, 1, (0, 0, 0, 0, [])), (29, .istore_n 2, 1, (0, 0, 0, 0, [])), (30, .aload_n 0, 1, (0, 0, 0, 0, [])), (31, .iload_n 1, 1, (0, 0, 0, 0, [])), (32, .invokevirtual 250, 3, (152, 1, 0, 0, [])), (35, .iconst 5, 1, (0, 0, 5, 0, [])), (36, .if_icmp .ne 9, 3, (45, 0, 0, 0, [])), (39, .iconst 2, 1, (0, 0, 2, 0, [])), (40, .iload_n 2, 1, (0, 0, 0, 0, [])), (41, .imul, 1, (0, 0, 0, 0, [])), (42, .goto 4, 3, (46, 0, 0, 0, [])), (45, .iload_n 2, 1, (0, 0, 0, 0, [])), (46, .ireturn, 1, (0, 0, 0, 0, []))]
def g_k180 : List (Nat × g_I) := [(0, .aload_n 0, 1, (0, 0, 0, 0, [])), (1, .iload_n 1, 1, (0, 0, 0, 0, [])), (2, .invokevirtual 250, 3, (152, 1, 0, 0, [])), (5, .istore_n 2, 1, (0, 0, 0, 0, [])), (6, .iload_n 2, 1, (0, 0, 0, 0, [])), (7, .iconst 4, 1, (0, 0, 4, 0, [])), (8, .if_icmp .lt 23, 3, (31, 0, 0, 0, [])), (11, .aload_n 0, 1, (0, 0, 0, 0, [])), (12, .bipush 23, 2, (0, 0, 23, 0, [])), (14, .invokevirtual 307, 3, (177, 1, 0, 0, [])), (17, .aload_n 0, 1, (0, 0, 0, 0, [])), (18, .bipush 20, 2, (0, 0, 20, 0, [])), (20, .invokevirtual 307, 3, (177, 1, 0, 0, [])), (23, .iload_n 1, 1, (0, 0, 0, 0, [])), (24, .aload_n 0, 1, (0, 0, 0, 0, [])), (25, .iload_n 1, 1, (0, 0, 0, 0, [])), (26, .invokevirtual 313, 3, (179, 1, 0, 0, [])), (29, .isub, 1, (0, 0, 0, 0, [])), (30, .ireturn, 1, (0, 0, 0, 0, [])), (31, .iload_n 2, 1, (0, 0, 0, 0, [])), (32, .iconst 3, 1, (0, 0, 3, 0, [])), (33, .if_icmp .ne 9, 3, (42, 0, 0, 0, [])), (36, .aload_n 0, 1, (0, 0, 0, 0, [])), (37, .bipush 24, 2, (0, 0, 24, 0, [])), (39, .invokevirtual 307, 3, (177, 1, 0, 0, [])), (42, .iload_n 2, 1, (0, 0, 0, 0, [])), (43, .iconst 1, 1, (0, 0, 1, 0, [])), (44, .if_icmp .eq 9, 3, (53, 0, 0, 0, [])), (47, .aload_n 0, 1, (0, 0, 0, 0, [])), (48, .bipush 22, 2, (0, 0, 22, 0, [])), (50, .invokevirtual 307, 3, (177, 1, 0, 0, [])), (53, .aload_n 0, 1, (0, 0, 0, 0, [])), (54, .bipush 21, 2, (0, 0, 21, 0, [])), (56, .invokevirtual 307, 3, (177, 1, 0, 0, [])), (59, .aload_n 0, 1, (0, 0, 0, 0, [])), (60, .bipush 20, 2, (0, 0, 20, 0, [])), (62, .invokevirtual 307, 3, (177, 1, 0, 0, [])), (65, .iload_n 1, 1, (0, 0, 0, 0, [])), (66, .aload_n 0, 1, (0, 0, 0, 0, [])), (67, .iload_n 1, 1, (0, 0, 0, 0, [])), (68, .invokevirtual 253, 3, (153, 1, 0, 0, [])), (71, .iadd, 1, (0, 0, 0, 0, [])), (72, .iload_n 2, 1, (0, 0, 0, 0, [])), (73, .iconst 1, 1, (0, 0, 1, 0, [])), (74, .if_icmp .ne 7, 3, (81, 0, 0, 0, [])), (77, .iconst 0, 1, (0, 0, 0, 0, [])), (78, .goto 6, 3, (84, 0, 0, 0, [])), (81, .sipush 1000, 3, (0, 0, 1000, 0, [])), (84, .isub, 1, (0, 0, 0, 0, [])), (85, .istore_n 3, 1, (0, 0, 0, 0, [])), (86, .iload_n 2, 1, (0, 0, 0, 0, [])), (87, .iconst 3, 1, (0, 0, 3, 0, [])), (88, .if_icmp .ne 9, 3, (97, 0, 0, 0, [])), (91, .iconst 2, 1, (0, 0, 2, 0, [])), (92, .iload_n 3, 1, (0, 0, 0, 0, [])), (93, .imul, 1, (0, 0, 0, 0, [])), (94, .goto 4, 3, (98, 0, 0, 0, [])), (97, .iload_n 3, 1, (0, 0, 0, 0, [])), (98, .ireturn, 1, (0, 0, 0, 0, []))]
def g_k181 : List (Nat × g_I) := [(0, .aload_n 0, 1, (0, 0, 0, 0, [])), (1, .iload_n 1, 1, (0, 0, 0, 0, [])), (2, .invokevirtual 250, 3, (152, 1, 0, 0, [])), (5, .istore_n 2, 1, (0, 0, 0, 0, [])), (6, .iload_n 2, 1, (0, 0, 0, 0, [])), (7, .iconst 4, 1, (0, 0, 4, 0, [])), (8, .if_icmp .lt 9, 3, (17, 0, 0, 0, [])), (11, .aload_n 0, 1, (0, 0, 0, 0, [])), (12, .iload_n 1, 1, (0, 0, 0, 0, [])), (13, .invokevirtual 313, 3, (179, 1, 0, 0, [])), (16, .ireturn, 1, (0, 0, 0, 0, [])), (17, .iload_n 2, 1, (0, 0, 0, 0, [])), (18, .iconst 3, 1, (0, 0, 3, 0, [])), (19, .if_icmp .ne 9, 3, (28, 0, 0, 0, [])), (22, .aload_n 0, 1, (0, 0, 0, 0, [])), (23, .bipush 12, 2, (0, 0, 12, 0, [])), (25, .invokevirtual 307, 3, (177, 1, 0, 0, [])), (28, .aload_n 0, 1, (0, 0, 0, 0, [])), (29, .bipush 11, 2, (0, 0, 11, 0, [])), (31, .invokevirtual 307, 3, (177, 1, 0, 0, [])), (34, .aload_n 0, 1, (0, 0, 0, 0, [])), (35, .iload_n 1, 1, (0, 0, 0, 0, [])), (36, .invokevirtual 310, 3, (178, 1, 0, 0, [])), (39, .istore_n 3, 1, (0, 0, 0, 0, [])), (40, .iload_n 3, 1, (0, 0, 0, 0, [])), (41, .aload_n 0, 1, (0, 0, 0, 0, [])), (42, .iload_n 1, 1, (0, 0, 0, 0, [])), (43, .invokevirtual 316, 3, (180, 1, 0, 0, [])), (46, .iadd, 1, (0, 0, 0, 0, [])), (47, .istore_n 3, 1, (0, 0, 0, 0, [])), (48, .iload_n 2, 1, (0, 0, 0, 0, [])), (49, .iconst 3, 1, (0, 0, 3, 0, [])), (50, .if_icmp .ne 8, 3, (58, 0, 0, 0, [])), (53, .iload_n 3, 1, (0, 0, 0, 0, [])), (54, .ineg, 1, (0, 0, 0, 0, [])), (55, .goto 4, 3, (59, 0, 0, 0, [])), (58, .iload_n 3, 1, (0, 0, 0, 0, [])), (59, .ireturn, 1, (0, 0, 0, 0, []))]
def g_k182 : List (Nat × g_I) := [(0, .aload_n 0, 1, (0, 0, 0, 0, [])), (1, .iconst 0, 1, (0, 0, 0, 0, [])), (2, .putfield 56, 3, (8, 0, 0, 0, [])), (5, .aload_n 0, 1, (0, 0, 0, 0, [])), (6, .iload_n 1, 1, (0, 0, 0, 0, [])), (7, .invokevirtual 270, 3, (138, 1, 0, 0, [])), (10, .ifCond .eq 13, 3, (23, 0, 0, 0, [])), (13, .iload_n 2, 1, (0, 0, 0, 0, [])), (14, .i2l, 1, (0, 0, 0, 0, [])), (15, .lconst 0, 1, (0, 0, 0, 0, [])), (16, .lconst 1, 1, (0, 0, 0, 1, [])), (17, .invokestatic 66, 3, (107, 3, 0, 0, [])), (20, .ifCond .ne 6, 3, (26, 0, 0, 0, [])), (23, .ldc 76, 2, (0, 0, -1000001, 0, [])), (25, .ireturn, 1, (0, 0, 0, 0, [])), (26, .aload_n 0, 1, (0, 0, 0, 0, [])), (27, .iconst 0, 1, (0, 0, 0, 0, [])), (28, .putfield 304, 3, (8, 26, 0, 0, [])), (31, .iload_n 2, 1, (0, 0, 0, 0, [])), (32, .ifCond .ne 11, 3, (43, 0, 0, 0, [])), (35, .aload_n 0, 1, (0, 0, 0, 0, [])), (36, .iload_n 1, 1, (0, 0, 0, 0, [])), (37, .invokevirtual 319, 3, (181, 1, 0, 0, [])), (40, .goto 8, 3, (48, 0, 0, 0, [])), (43, .aload_n 0, 1, (0, 0, 0, 0, [])), (44, .iload_n 1, 1, (0, 0, 0, 0, [])), (45, .invokevirtual 316, 3, (180, 1, 0, 0, [])), (48, .ireturn, 1, (0, 0, 0, 0, []))]
def g_k183 : List (Nat × g_I) := [(0, .aload_n 0, 1, (0, 0, 0, 0, [])), (1, .iconst 0, 1, (0, 0, 0, 0, [])), (2, .putfield 56, 3, (8, 0, 0, 0, [])), (5, .iload_n 1, 1, (0, 0, 0, 0, [])), (6, .i2l, 1, (0, 0, 0, 0, [])), (7, .lconst 0, 1, (0, 0, 0, 0, [])), (8, .aload_n 0, 1, (0, 0, 0, 0, [])), (9, .getfield 304, 3, (8, 26, 0, 0, [])), (12, .iconst 1, 1, (0, 0, 1, 0, [])), (13, .isub, 1, (0, 0, 0, 0, [])), (14, .i2l, 1, (0, 0, 0, 0, [])), (15, .invokestatic 66, 3, (107, 3, 0, 0, [])), (18, .ifCond .eq 12, 3, (30, 0, 0, 0, [])), (21, .aload_n 0, 1, (0, 0, 0, 0, [])), (22, .getfield 53, 3, (8, 25, 0, 0, [])), (25, .iload_n 1, 1, (0, 0, 0, 0, [])), (26, .iaload, 1, (0, 0, 0, 0, [])), (27, .goto 5, 3, (32, 0, 0, 0, [])), (30, .ldc 92, 2, (0, 0, -1000000, 0, [])), (32, .ireturn, 1, (0, 0, 0, 0, []))]
def g_k184 : List (Nat × g_I) := [(0, .aload_n 0, 1, (0, 0, 0, 0, [])), (1, .iconst 0, 1, (0, 0, 0, 0, [])), (2, .putfield 56, 3, (8, 0, 0, 0, [])), (5, .iconst 0, 1, (0, 0, 0, 0, [])), (6, .istore_n 2, 1, (0, 0, 0, 0, [])), (7, .iload_n 1, 1, (0, 0, 0, 0, [])), (8, .tableswitch 135 0 5 #[40, 73, 81, 118, 123, 130], 40, (143, 0, 0, 0, [48, 81, 89, 126, 131, 138])), (48, .iconst 0, 1, (0, 0, 0, 0, [])), (49, .istore_n 3, 1, (0, 0, 0, 0, [])), (50, .iload_n 3, 1, (0, 0, 0, 0, [])), (51, .bipush 8, 2, (0, 0, 8, 0, [])), (53, .if_icmp .ge 26, 3, (79, 0, 0, 0, [])), (56, .iload_n 2, 1, (0, 0, 0, 0, [])), (57, .aload_n 0, 1, (0, 0, 0, 0, [])), (58, .getfield 7, 3, (8, 2, 0, 0, [])), (61, .iload_n 3, 1, (0, 0, 0, 0, [])), (62, .iaload, 1, (0, 0, 0, 0, [])), (63, .ifCond .lt 7, 3, (70, 0, 0, 0, [])), (66, .iconst 1, 1, (0, 0, 1, 0, [])), (67, .goto 4, 3, (71, 0, 0, 0, [])), (70, .iconst 0, 1, (0, 0, 0, 0, [])), (71, .iadd, 1, (0, 0, 0, 0, [])), (72, .istore_n 2, 1, (0, 0, 0, 0, [])), (73, .iinc 3 1, 3, (0, 0, 1, 0, [])), (76, .goto (-26), 3, (50, 0, 0, 0, [])), (79, .iload_n 2, 1, (0, 0, 0, 0, [])), (80, .ireturn, 1, (0, 0, 0, 0, [])), (81, .aload_n 0, 1, (0, 0, 0, 0, [])), (82, .getfield 19, 3, (8, 5, 0, 0, [])), (85, .bipush 6, 2, (0, 0, 6, 0, [])), (87, .iaload, 1, (0, 0, 0, 0, [])), (88, .ireturn, 1, (0, 0, 0, 0, [])), (89, .iconst 0, 1, (0, 0, 0, 0, [])), (90, .istore_n 3, 1, (0, 0, 0, 0, [])), (91, .iload_n 3, 1, (0, 0, 0, 0, [])), (92, .bipush 81, 2, (0, 0, 81, 0, [])), (94, .if_icmp .ge 30, 3, (124, 0, 0, 0, [])), (97, .iload_n 2, 1, (0, 0, 0, 0, [])), (98, .aload_n 0, 1, (0, 0, 0, 0, [])), (99, .getfield 19, 3, (8, 5, 0, 0, [])), (102, .bipush 7, 2, (0, 0, 7, 0, [])), (104, .iload_n 3, 1, (0, 0, 0, 0, [])), (105, .iadd, 1, (0, 0, 0, 0, [])), (106, .iaload, 1, (0, 0, 0, 0, [])), (107, .iconst 1, 1, (0, 0, 1, 0, [])), (108, .if_icmp .ne 7, 3, (115, 0, 0, 0, [])), (111, .iconst 1, 1, (0, 0, 1, 0, [])), (112, .goto 4, 3, (116, 0, 0, 0, [])), (115, .iconst 0, 1, (0, 0, 0, 0, [])), (116, .iadd, 1, (0, 0, 0, 0, [])), (117, .istore_n 2, 1, (0, 0, 0, 0, [])), (118, .iinc 3 1, 3, (0, 0, 1, 0, [])), (121, .goto (-30), 3, (91, 0, 0, 0, [])), (124, .iload_n 2, 1, (0, 0, 0, 0, [])), (125, .ireturn, 1, (0, 0, 0, 0, [])), (126, .aload_n 0, 1, (0, 0, 0, 0, [])), (127, .invokevirtual 219, 3, (142, 0, 0, 0, [])), (130, .ireturn, 1, (0, 0, 0, 0, [])), (131, .aload_n 0, 1, (0, 0, 0, 0, [])), (132, .getfield 19, 3, (8, 5, 0, 0, [])), (135, .iconst 4, 1, (0, 0, 4, 0, [])), (136, .iaload, 1, (0, 0, 0, 0, [])), (137, .ireturn, 1, (0, 0, 0, 0, [])), (138, .aload_n 0, 1, (0, 0, 0, 0, [])), (139, .getfield 83, 3, (8, 8, 0, 0, [])), (142, .ireturn, 1, (0, 0, 0, 0, [])), (143, .ldc 76, 2, (0, 0, -1000001, 0, [])), (145, .ireturn, 1, (0, 0, 0, 0, []))]
def g_k185 : List (Nat × g_I) := [(0, .aload_n 0, 1, (0, 0, 0, 0, [])), (1, .iconst 0, 1, (0, 0, 0, 0, [])), (2, .putfield 56, 3, (8, 0, 0, 0, [])), (5, .aload_n 0, 1, (0, 0, 0, 0, [])), (6, .getfield 60, 3, (8, 1, 0, 0, [])), (9, .ireturn, 1, (0, 0, 0, 0, []))]
def g_k186 : List (Nat × g_I) := [(0, .aload_n 0, 1, (0, 0, 0, 0, [])), (1, .getfield 9, 3, (9, 0, 0, 0, [])), (4, .arraylength, 1, (0, 0, 0, 0, [])), (5, .aload_n 0, 1, (0, 0, 0, 0, [])), (6, .invokevirtual 335, 3, (188, 0, 0, 0, [])), (9, .ishr, 1, (0, 0, 0, 0, [])), (10, .ireturn, 1, (0, 0, 0, 0, []))]
def g_k187 : List (Nat × g_I) := [(0, .aload_n 0, 1, (0, 0, 0, 0, [])), (1, .invokevirtual 492, 3, (189, 0, 0, 0, [])), (4, .ifCond .eq 12, 3, (16, 0, 0, 0, [])), (7, .aload_n 0, 1, (0, 0, 0, 0, [])), (8, .getfield 9, 3, (9, 0, 0, 0, [])), (11, .iload_n 1, 1, (0, 0, 0, 0, [])), (12, .invokestatic 495, 3, (191, 2, 0, 0, [])), (15, .ireturn, 1, (2, 0, 0, 0, [])), (16, .aload_n 0, 1, (0, 0, 0, 0, [])), (17, .getfield 9, 3, (9, 0, 0, 0, [])), (20, .iload_n 1, 1, (0, 0, 0, 0, [])), (24, .ireturn, 1, (2, 0, 0, 0, []))]
def g_k188 : List (Nat × g_I) := [(0, .getstatic 38, 3, (0, 0, 1, 0, [1])), (3, .ifCond .eq 10, 3, (13, 0, 0, 0, [])), (6, .aload_n 0, 1, (0, 0, 0, 0, [])), (7, .getfield 15, 3, (9, 1, 0, 0, [])), (10, .goto 4, 3, (14, 0, 0, 0, [])), (13, .iconst 1, 1, (0, 0, 1, 0, [])), (14, .ireturn, 1, (3, 0, 0, 0, []))]
def g_k189 : List (Nat × g_I) := [(0, .getstatic 38, 3, (0, 0, 1, 0, [1])), (3, .ifCond .eq 14, 3, (17, 0, 0, 0, [])), (6, .aload_n 0, 1, (0, 0, 0, 0, [])), (7, .getfield 15, 3, (9, 1, 0, 0, [])), (10, .ifCond .ne 7, 3, (17, 0, 0, 0, [])), (13, .iconst 1, 1, (0, 0, 1, 0, [])), (14, .goto 4, 3, (18, 0, 0, 0, [])), (17, .iconst 0, 1, (0, 0, 0, 0, [])), (18, .ireturn, 1, (1, 0, 0, 0, []))]
def g_k190 : List (Nat × g_I) := [(0, .iload_n 0, 1, (0, 0, 0, 0, [])), (1, .iload_n 1, 1, (0, 0, 0, 0, [])), (2, .getstatic 1053, 3, (77, 0, 0, 0, [])), (5, .invokestatic 1059, 3, (193, 3, 0, 0, [])), (8, .pop, 1, (0, 0, 0, 0, [])), (9, .return_, 1, (0, 0, 0, 0, []))]
def g_k191 : List (Nat × g_I) := [(0, .iload_n 1, 1, (0, 0, 0, 0, [])), (1, .aload_n 0, 1, (0, 0, 0, 0, [])), (2, .arraylength, 1, (0, 0, 0, 0, [])), (3, .invokestatic 9, 3, (190, 2, 0, 0, [])), (6, .aload_n 0, 1, (0, 0, 0, 0, [])), (7, .iload_n 1, 1, (0, 0, 0, 0, [])), (8, .baload, 1, (0, 0, 0, 0, [])), (9, .sipush 255, 3, (0, 0, 255, 0, [])), (12, .iand, 1, (0, 0, 0, 0, [])), (13, .i2c, 1, (0, 0, 0, 0, [])), (14, .ireturn, 1, (2, 0, 0, 0, []))]
def g_k192 : List (Nat × g_I) := [(0, .iconst 0, 1, (0, 0, 0, 0, [])), (1, .istore_n 2, 1, (0, 0, 0, 0, [])), (2, .aload_n 0, 1, (0, 0, 0, 0, [])), (3, .arraylength, 1, (0, 0, 0, 0, [])), (4, .istore_n 3, 1, (0, 0, 0, 0, [])), (5, .iload_n 2, 1, (0, 0, 0, 0, [])), (6, .iload_n 3, 1, (0, 0, 0, 0, [])), (7, .if_icmp .ge 13, 3, (20, 0, 0, 0, [])), (10, .aload_n 0, 1, (0, 0, 0, 0, [])), (11, .iload_n 2, 1, (0, 0, 0, 0, [])), (12, .iload_n 1, 1, (0, 0, 0, 0, [])), (13, .iastore, 1, (0, 0, 0, 0, [])), (14, .iinc 2 1, 3, (0, 0, 1, 0, [])), (17, .goto (-12), 3, (5, 0, 0, 0, [])), (20, .return_, 1, (0, 0, 0, 0, []))]
def g_k193 : List (Nat × g_I) := [(0, .iload_n 0, 1, (0, 0, 0, 0, [])), (1, .ifCond .lt 8, 3, (9, 0, 0, 0, [])), (4, .iload_n 0, 1, (0, 0, 0, 0, [])), (5, .iload_n 1, 1, (0, 0, 0, 0, [])), (6, .if_icmp .lt 10, 3, (16, 0, 0, 0, [])), (9, .aload_n 2, 1, (0, 0, 0, 0, [])), (10, .iload_n 0, 1, (0, 0, 0, 0, [])), (11, .iload_n 1, 1, (0, 0, 0, 0, [])), (16, .iload_n 0, 1, (0, 0, 0, 0, [])), (17, .ireturn, 1, (0, 0, 0, 0, []))]
def g_cl (M : Nat) : List (Nat × g_I) := g_at0 (g_at0 [[g_k0, g_k1, g_k2, g_k3, g_k4, g_k5, g_k6, g_k7, g_k8, g_k9, g_k10, g_k11, g_k12, g_k13, g_k14, g_k15], [g_k16, g_k17, g_k18, g_k19, g_k20, g_k21, g_k22, g_k23, g_k24, g_k25, g_k26, g_k27, g_k28, g_k29, g_k30, g_k31], [g_k32, g_k33, g_k34, g_k35, g_k36, g_k37, g_k38, g_k39, g_k40, g_k41, g_k42, g_k43, g_k44, g_k45, g_k46, g_k47], [g_k48, g_k49, g_k50, g_k51, g_k52, g_k53, g_k54, g_k55, g_k56, g_k57, g_k58, g_k59, g_k60, g_k61, g_k62, g_k63], [g_k64, g_k65, g_k66, g_k67, g_k68, g_k69, g_k70, g_k71, g_k72, g_k73, g_k74, g_k75, g_k76, g_k77, g_k78, g_k79], [g_k80, g_k81, g_k82, g_k83, g_k84, g_k85, g_k86, g_k87, g_k88, g_k89, g_k90, g_k91, g_k92, g_k93, g_k94, g_k95], [g_k96, g_k97, g_k98, g_k99, g_k100, g_k101, g_k102, g_k103, g_k104, g_k105, g_k106, g_k107, g_k108, g_k109, g_k110, g_k111], [g_k112, g_k113, g_k114, g_k115, g_k116, g_k117, g_k118, g_k119, g_k120, g_k121, g_k122, g_k123, g_k124, g_k125, g_k126, g_k127], [g_k128, g_k129, g_k130, g_k131, g_k132, g_k133, g_k134, g_k135, g_k136, g_k137, g_k138, g_k139, g_k140, g_k141, g_k142, g_k143], [g_k144, g_k145, g_k146, g_k147, g_k148, g_k149, g_k150, g_k151, g_k152, g_k153, g_k154, g_k155, g_k156, g_k157, g_k158, g_k159], [g_k160, g_k161, g_k162, g_k163, g_k164, g_k165, g_k166, g_k167, g_k168, g_k169, g_k170, g_k171, g_k172, g_k173, g_k174, g_k175], [g_k176, g_k177, g_k178, g_k179, g_k180, g_k181, g_k182, g_k183, g_k184, g_k185, g_k186, g_k187, g_k188, g_k189, g_k190, g_k191], [g_k192, g_k193]] (M / 16) []) (M % 16) []
abbrev g_MI : Type := MethodName × ByteArray × Nat × Option FieldType × Nat
def g_mi0 : g_MI := (⟨"", "", ""⟩, .empty, 0, none, 99)
def g_mi (M : Nat) : g_MI := g_at0 (g_at0 [[(x, cL_law, 4, some .boolean, 10), (yX0_isOfKind, cX0_isOfKind, 2, some .boolean, 0), (yX0_answer, cX0_answer, 5, some .int, 0), (yX0_begin, cX0_begin, 7, some .int, 0), (yX0_note, cX0_note, 2, none, 0), (yX1_throwShadow, cX1_throwShadow, 8, none, 1), (yX1_isInShadow, cX1_isInShadow, 3, some .boolean, 1), (yX1_openShops, cX1_openShops, 5, some .int, 1), (yX1_openSlots, cX1_openSlots, 5, some .int, 1), (yX1_tellDay, cX1_tellDay, 3, none, 1), (yX1_bestCell, cX1_bestCell, 6, some .int, 1), (yX1_countHours, cX1_countHours, 5, none, 1), (yX1_isOpen, cX1_isOpen, 6, some .boolean, 1), (yX2_readsAll, cX2_readsAll, 3, some .boolean, 2), (yX2_readsTower, cX2_readsTower, 3, some .boolean, 2), (yX2_readsWall, cX2_readsWall, 2, some .boolean, 2)], [(yX2_readsShop, cX2_readsShop, 3, some .boolean, 2), (yX2_sortTold, cX2_sortTold, 1, some .int, 2), (yX2_readCell, cX2_readCell, 2, some .int, 2), (yX2_readsNumber, cX2_readsNumber, 3, some .boolean, 2), (yX2_readsSign, cX2_readsSign, 1, some .boolean, 2), (yX2_isWord, cX2_isWord, 2, some .boolean, 2), (yX2_fails, cX2_fails, 2, some .boolean, 2), (yX2_takeToken, cX2_takeToken, 2, none, 2), (yX3_isRow, cX3_isRow, 1, some .boolean, 3), (yX3_isMissing, cX3_isMissing, 2, some .boolean, 3), (yX3_haveOneLane, cX3_haveOneLane, 3, some .boolean, 3), (yX3_hasItems, cX3_hasItems, 4, some .boolean, 3), (yX3_lay, cX3_lay, 4, none, 3), (yX3_remove, cX3_remove, 2, some .int, 3), (yX3_put, cX3_put, 4, some .int, 3), (yX3_item, cX3_item, 3, some .int, 3)], [(yX3_move, cX3_move, 6, none, 3), (yX3_present, cX3_present, 6, some .int, 3), (yX4_hasRoomFor, cX4_hasRoomFor, 2, some .boolean, 4), (yX4_append, cX4_append, 5, some .int, 4), (yX4_clear, cX4_clear, 1, none, 4), (yX4_byteAt, cX4_byteAt, 2, some .int, 4), (yX4_endOfBlanks, cX4_endOfBlanks, 3, some .int, 4), (yX4_endOfRun, cX4_endOfRun, 5, some .int, 4), (yX4_numberIn, cX4_numberIn, 5, some .int, 4), (yX4_hasWord, cX4_hasWord, 5, some .boolean, 4), (yX5_clear, cX5_clear, 1, none, 5), (yX5_become, cX5_become, 2, none, 5), (yX5_raiseTower, cX5_raiseTower, 5, none, 5), (yX5_addWall, cX5_addWall, 2, none, 5), (yX5_addShop, cX5_addShop, 4, none, 5), (yX5_removeShop, cX5_removeShop, 1, none, 5)], [(yX5_leanTo, cX5_leanTo, 3, none, 5), (yX5_clearClouds, cX5_clearClouds, 1, none, 5), (yX5_drawClouds, cX5_drawClouds, 6, none, 5), (yX5_cloudy, cX5_cloudy, 6, some .int, 5), (yX5_isFree, cX5_isFree, 2, some .boolean, 5), (yX5_isTower, cX5_isTower, 2, some .boolean, 5), (yX5_isWall, cX5_isWall, 2, some .boolean, 5), (yX5_isWalkable, cX5_isWalkable, 2, some .boolean, 5), (yX5_hasShop, cX5_hasShop, 2, some .boolean, 5), (yX5_hasShops, cX5_hasShops, 2, some .boolean, 5), (yX5_shopIn, cX5_shopIn, 4, some .int, 5), (yX5_kindOf, cX5_kindOf, 2, some .int, 5), (yX6_start, cX6_start, 5, none, 6), (yX6_goes, cX6_goes, 5, some .boolean, 6), (yX6_shopsBetween, cX6_shopsBetween, 11, some .int, 6), (yX6_endOfErrands, cX6_endOfErrands, 10, some .int, 6)], [(yX6_endOfSet, cX6_endOfSet, 10, some .int, 6), (yX6_openingFrom, cX6_openingFrom, 3, some .int, 6), (yX6_tellOpenings, cX6_tellOpenings, 5, none, 6), (yX6_measure, cX6_measure, 8, none, 6), (yX6_cellBeside, cX6_cellBeside, 4, some .int, 6), (yX7_row, cX7_row, 4, some .int, 7), (yX7_set, cX7_set, 4, some .int, 7), (yX7_copy, cX7_copy, 6, some .int, 7), (yX7_drop, cX7_drop, 2, some .int, 7), (yX7_feed, cX7_feed, 4, some .int, 7), (yX7_town, cX7_town, 2, some .int, 7), (yX7_fault, cX7_fault, 1, some .int, 7), (yX7_season, cX7_season, 3, some .int, 7), (yX7_lean, cX7_lean, 3, some .int, 7), (yX7_cloud, cX7_cloud, 4, some .int, 7), (yX7_draw, cX7_draw, 3, some .int, 7)], [(yX7_more, cX7_more, 4, some .int, 7), (yX7_undo, cX7_undo, 1, some .int, 7), (yX7_shadow, cX7_shadow, 3, some .int, 7), (yX7_open, cX7_open, 2, some .int, 7), (yX7_shop, cX7_shop, 3, some .int, 7), (yX7_soonest, cX7_soonest, 5, some .int, 7), (yX7_check, cX7_check, 9, some .int, 7), (yX7_thief, cX7_thief, 5, some .int, 7), (yX7_longest, cX7_longest, 4, some .int, 7), (yX7_bills, cX7_bills, 5, some .int, 7), (yX7_leans, cX7_leans, 4, some .int, 7), (yX7_image, cX7_image, 2, some .int, 7), (yX7_restore, cX7_restore, 2, some .int, 7), (yX7_kind, cX7_kind, 2, some .int, 7), (yX7_as, cX7_as, 3, some .int, 7), (yX7_ask, cX7_ask, 3, some .int, 7)], [(yX7_trace, cX7_trace, 2, some .int, 7), (yX7_count, cX7_count, 2, some .int, 7), (yX7_status, cX7_status, 1, some .int, 7), (yX7_found, cX7_found, 2, some .int, 7), (yX7_fine, cX7_fine, 2, some .int, 7), (yX7_openSlotsOfYear, cX7_openSlotsOfYear, 4, some .int, 7), (yX7_isSlot, cX7_isSlot, 1, some .boolean, 7), (yX7_isCell, cX7_isCell, 1, some .boolean, 7), (yX7_isSort, cX7_isSort, 1, some .boolean, 7), (yX7_isLean, cX7_isLean, 1, some .boolean, 7), (yX7_cellAt, cX7_cellAt, 2, some .int, 7), (yX8_in, cX8_in, 6, some .boolean, 8), (yX8_finding, cX8_finding, 2, some .int, 8), (yX8_isRow, cX8_isRow, 1, some .boolean, 8), (yX8_row, cX8_row, 5, some .int, 8), (yX8_set, cX8_set, 4, some .int, 8)], [(yX8_copy, cX8_copy, 9, some .int, 8), (yX8_drop, cX8_drop, 2, some .int, 8), (yX8_feed, cX8_feed, 5, some .int, 8), (yX8_byteAt, cX8_byteAt, 2, some .int, 8), (yX8_isLetter, cX8_isLetter, 1, some .boolean, 8), (yX8_isFigure, cX8_isFigure, 1, some .boolean, 8), (yX8_next, cX8_next, 2, none, 8), (yX8_begin, cX8_begin, 1, none, 8), (yX8_bad, cX8_bad, 2, none, 8), (yX8_must, cX8_must, 2, none, 8), (yX8_name, cX8_name, 4, some .long, 8), (yX8_figures, cX8_figures, 3, some .int, 8), (yX8_number, cX8_number, 4, some .int, 8), (yX8_kindBy, cX8_kindBy, 2, some .int, 8), (yX8_mustEnd, cX8_mustEnd, 1, none, 8), (yX8_begins, cX8_begins, 3, none, 8)], [(yX8_isFreeOf, cX8_isFreeOf, 4, some .boolean, 8), (yX8_readTower, cX8_readTower, 4, none, 8), (yX8_readWall, cX8_readWall, 3, none, 8), (yX8_readShop, cX8_readShop, 6, none, 8), (yX8_town, cX8_town, 2, some .int, 8), (yX8_fault, cX8_fault, 1, some .int, 8), (yX8_isThere, cX8_isThere, 1, some .boolean, 8), (yX8_isSlot, cX8_isSlot, 1, some .boolean, 8), (yX8_isCell, cX8_isCell, 1, some .boolean, 8), (yX8_isLean, cX8_isLean, 1, some .boolean, 8), (yX8_isShop, cX8_isShop, 2, some .boolean, 8), (yX8_season, cX8_season, 3, some .int, 8), (yX8_lean, cX8_lean, 3, some .int, 8), (yX8_cloud, cX8_cloud, 4, some .int, 8), (yX8_clouds, cX8_clouds, 3, some .int, 8), (yX8_draw, cX8_draw, 6, some .int, 8)], [(yX8_kindOfSort, cX8_kindOfSort, 1, some .int, 8), (yX8_more, cX8_more, 5, some .int, 8), (yX8_undo, cX8_undo, 1, some .int, 8), (yX8_sizeOf, cX8_sizeOf, 1, some .int, 8), (yX8_layShadow, cX8_layShadow, 11, none, 8), (yX8_layNow, cX8_layNow, 2, none, 8), (yX8_shadow, cX8_shadow, 3, some .int, 8), (yX8_isOpen, cX8_isOpen, 5, some .boolean, 8), (yX8_kind0, cX8_kind0, 2, some .int, 8), (yX8_cellOf, cX8_cellOf, 2, some .int, 8), (yX8_openBy, cX8_openBy, 4, some .int, 8), (yX8_openAt, cX8_openAt, 2, some .int, 8), (yX8_open, cX8_open, 2, some .int, 8), (yX8_slotsOf, cX8_slotsOf, 8, some .int, 8), (yX8_slotsNow, cX8_slotsNow, 2, some .int, 8), (yX8_shop, cX8_shop, 6, some .int, 8)], [(yX8_nextCell, cX8_nextCell, 5, some .int, 8), (yX8_mayBe, cX8_mayBe, 2, some .boolean, 8), (yX8_shopsAt, cX8_shopsAt, 4, some .int, 8), (yX8_goOn, cX8_goOn, 9, some .boolean, 8), (yX8_soonest, cX8_soonest, 6, some .int, 8), (yX8_lack, cX8_lack, 4, some .int, 8), (yX8_check, cX8_check, 14, some .int, 8), (yX8_spread, cX8_spread, 7, none, 8), (yX8_thief, cX8_thief, 9, some .int, 8), (yX8_longest, cX8_longest, 5, some .int, 8), (yX8_bills, cX8_bills, 5, some .int, 8), (yX8_leans, cX8_leans, 4, some .int, 8), (yX8_image, cX8_image, 3, some .int, 8), (yX8_restore, cX8_restore, 3, some .int, 8), (yX8_isOf, cX8_isOf, 2, some .boolean, 8), (yX8_kind, cX8_kind, 2, some .int, 8)], [(yX8_as, cX8_as, 3, some .int, 8), (yX8_began, cX8_began, 2, none, 8), (yX8_plainSize, cX8_plainSize, 2, some .int, 8), (yX8_sunnySize, cX8_sunnySize, 3, some .int, 8), (yX8_markOf, cX8_markOf, 4, some .int, 8), (yX8_askSize, cX8_askSize, 4, some .int, 8), (yX8_ask, cX8_ask, 3, some .int, 8), (yX8_trace, cX8_trace, 2, some .int, 8), (yX8_count, cX8_count, 4, some .int, 8), (yX8_status, cX8_status, 1, some .int, 8), (yJ0_length_8abf5, cJ0_length_8abf5, 1, some .int, 9), (yJ0_charAt_5068e, cJ0_charAt_5068e, 2, some .char, 9), (yJ0_coder_7d493, cJ0_coder_7d493, 1, some .byte, 9), (yJ0_isLatin1_aae02, cJ0_isLatin1_aae02, 1, some .boolean, 9), (yJ0_checkIndex_df160, cJ0_checkIndex_df160, 2, none, 9), (yJ1_charAt_3b067, cJ1_charAt_3b067, 2, some .char, 10)], [(yJ7_fill_53178, cJ7_fill_53178, 4, none, 10), (yJ3_checkIndex_8e157, cJ3_checkIndex_8e157, 3, some .int, 10)]] (M / 16) []) (M % 16) g_mi0
def g_y (M : Nat) : MethodName := (g_mi M).1
def g_by (M : Nat) : ByteArray := (g_mi M).2.1
def g_ml (M : Nat) : Nat := (g_mi M).2.2.1
def g_rt (M : Nat) : Option FieldType := (g_mi M).2.2.2.1
def g_mc (M : Nat) : Nat := (g_mi M).2.2.2.2
def g_mm (M : Nat) : Nat × Nat := (g_mc M, g_ml M)
def g_cd (M pc : Nat) : Option g_I := g_lk (g_cl M) pc
theorem g_q0 : g_cl 0 = g_k0 := rfl
theorem g_q1 : g_cl 1 = g_k1 := rfl
theorem g_q2 : g_cl 2 = g_k2 := rfl
theorem g_q3 : g_cl 3 = g_k3 := rfl
theorem g_q4 : g_cl 4 = g_k4 := rfl
theorem g_q5 : g_cl 5 = g_k5 := rfl
theorem g_q6 : g_cl 6 = g_k6 := rfl
theorem g_q7 : g_cl 7 = g_k7 := rfl
theorem g_q8 : g_cl 8 = g_k8 := rfl
theorem g_q9 : g_cl 9 = g_k9 := rfl
theorem g_q10 : g_cl 10 = g_k10 := rfl
theorem g_q11 : g_cl 11 = g_k11 := rfl
theorem g_q12 : g_cl 12 = g_k12 := rfl
theorem g_q13 : g_cl 13 = g_k13 := rfl
theorem g_q14 : g_cl 14 = g_k14 := rfl
theorem g_q15 : g_cl 15 = g_k15 := rfl
theorem g_q16 : g_cl 16 = g_k16 := rfl
theorem g_q17 : g_cl 17 = g_k17 := rfl
theorem g_q18 : g_cl 18 = g_k18 := rfl
theorem g_q19 : g_cl 19 = g_k19 := rfl
theorem g_q20 : g_cl 20 = g_k20 := rfl
theorem g_q21 : g_cl 21 = g_k21 := rfl
theorem g_q22 : g_cl 22 = g_k22 := rfl
theorem g_q23 : g_cl 23 = g_k23 := rfl
theorem g_q24 : g_cl 24 = g_k24 := rfl
theorem g_q25 : g_cl 25 = g_k25 := rfl
theorem g_q26 : g_cl 26 = g_k26 := rfl
theorem g_q27 : g_cl 27 = g_k27 := rfl
theorem g_q28 : g_cl 28 = g_k28 := rfl
theorem g_q29 : g_cl 29 = g_k29 := rfl
theorem g_q30 : g_cl 30 = g_k30 := rfl
theorem g_q31 : g_cl 31 = g_k31 := rfl
theorem g_q32 : g_cl 32 = g_k32 := rfl
theorem g_q33 : g_cl 33 = g_k33 := rfl
theorem g_q34 : g_cl 34 = g_k34 := rfl
theorem g_q35 : g_cl 35 = g_k35 := rfl
theorem g_q36 : g_cl 36 = g_k36 := rfl
theorem g_q37 : g_cl 37 = g_k37 := rfl
theorem g_q38 : g_cl 38 = g_k38 := rfl
theorem g_q39 : g_cl 39 = g_k39 := rfl
theorem g_q40 : g_cl 40 = g_k40 := rfl
theorem g_q41 : g_cl 41 = g_k41 := rfl
theorem g_q42 : g_cl 42 = g_k42 := rfl
theorem g_q43 : g_cl 43 = g_k43 := rfl
theorem g_q44 : g_cl 44 = g_k44 := rfl
theorem g_q45 : g_cl 45 = g_k45 := rfl
theorem g_q46 : g_cl 46 = g_k46 := rfl
theorem g_q47 : g_cl 47 = g_k47 := rfl
theorem g_q48 : g_cl 48 = g_k48 := rfl
theorem g_q49 : g_cl 49 = g_k49 := rfl
theorem g_q50 : g_cl 50 = g_k50 := rfl
theorem g_q51 : g_cl 51 = g_k51 := rfl
theorem g_q52 : g_cl 52 = g_k52 := rfl
theorem g_q53 : g_cl 53 = g_k53 := rfl
theorem g_q54 : g_cl 54 = g_k54 := rfl
theorem g_q55 : g_cl 55 = g_k55 := rfl
theorem g_q56 : g_cl 56 = g_k56 := rfl
theorem g_q57 : g_cl 57 = g_k57 := rfl
theorem g_q58 : g_cl 58 = g_k58 := rfl
theorem g_q59 : g_cl 59 = g_k59 := rfl
theorem g_q60 : g_cl 60 = g_k60 := rfl
theorem g_q61 : g_cl 61 = g_k61 := rfl
theorem g_q62 : g_cl 62 = g_k62 := rfl
theorem g_q63 : g_cl 63 = g_k63 := rfl
theorem g_q64 : g_cl 64 = g_k64 := rfl
theorem g_q65 : g_cl 65 = g_k65 := rfl
theorem g_q66 : g_cl 66 = g_k66 := rfl
theorem g_q67 : g_cl 67 = g_k67 := rfl
theorem g_q68 : g_cl 68 = g_k68 := rfl
theorem g_q69 : g_cl 69 = g_k69 := rfl
theorem g_q70 : g_cl 70 = g_k70 := rfl
theorem g_q71 : g_cl 71 = g_k71 := rfl
theorem g_q72 : g_cl 72 = g_k72 := rfl
theorem g_q73 : g_cl 73 = g_k73 := rfl
theorem g_q74 : g_cl 74 = g_k74 := rfl
theorem g_q75 : g_cl 75 = g_k75 := rfl
theorem g_q76 : g_cl 76 = g_k76 := rfl
theorem g_q77 : g_cl 77 = g_k77 := rfl
theorem g_q78 : g_cl 78 = g_k78 := rfl
theorem g_q79 : g_cl 79 = g_k79 := rfl
theorem g_q80 : g_cl 80 = g_k80 := rfl
theorem g_q81 : g_cl 81 = g_k81 := rfl
theorem g_q82 : g_cl 82 = g_k82 := rfl
theorem g_q83 : g_cl 83 = g_k83 := rfl
theorem g_q84 : g_cl 84 = g_k84 := rfl
theorem g_q85 : g_cl 85 = g_k85 := rfl
theorem g_q86 : g_cl 86 = g_k86 := rfl
theorem g_q87 : g_cl 87 = g_k87 := rfl
theorem g_q88 : g_cl 88 = g_k88 := rfl
theorem g_q89 : g_cl 89 = g_k89 := rfl
theorem g_q90 : g_cl 90 = g_k90 := rfl
theorem g_q91 : g_cl 91 = g_k91 := rfl
theorem g_q92 : g_cl 92 = g_k92 := rfl
theorem g_q93 : g_cl 93 = g_k93 := rfl
theorem g_q94 : g_cl 94 = g_k94 := rfl
theorem g_q95 : g_cl 95 = g_k95 := rfl
theorem g_q96 : g_cl 96 = g_k96 := rfl
theorem g_q97 : g_cl 97 = g_k97 := rfl
theorem g_q98 : g_cl 98 = g_k98 := rfl
theorem g_q99 : g_cl 99 = g_k99 := rfl
theorem g_q100 : g_cl 100 = g_k100 := rfl
theorem g_q101 : g_cl 101 = g_k101 := rfl
theorem g_q102 : g_cl 102 = g_k102 := rfl
theorem g_q103 : g_cl 103 = g_k103 := rfl
theorem g_q104 : g_cl 104 = g_k104 := rfl
theorem g_q105 : g_cl 105 = g_k105 := rfl
theorem g_q106 : g_cl 106 = g_k106 := rfl
theorem g_q107 : g_cl 107 = g_k107 := rfl
theorem g_q108 : g_cl 108 = g_k108 := rfl
theorem g_q109 : g_cl 109 = g_k109 := rfl
theorem g_q110 : g_cl 110 = g_k110 := rfl
theorem g_q111 : g_cl 111 = g_k111 := rfl
theorem g_q112 : g_cl 112 = g_k112 := rfl
theorem g_q113 : g_cl 113 = g_k113 := rfl
theorem g_q114 : g_cl 114 = g_k114 := rfl
theorem g_q115 : g_cl 115 = g_k115 := rfl
theorem g_q116 : g_cl 116 = g_k116 := rfl
theorem g_q117 : g_cl 117 = g_k117 := rfl
theorem g_q118 : g_cl 118 = g_k118 := rfl
theorem g_q119 : g_cl 119 = g_k119 := rfl
theorem g_q120 : g_cl 120 = g_k120 := rfl
theorem g_q121 : g_cl 121 = g_k121 := rfl
theorem g_q122 : g_cl 122 = g_k122 := rfl
theorem g_q123 : g_cl 123 = g_k123 := rfl
theorem g_q124 : g_cl 124 = g_k124 := rfl
theorem g_q125 : g_cl 125 = g_k125 := rfl
theorem g_q126 : g_cl 126 = g_k126 := rfl
theorem g_q127 : g_cl 127 = g_k127 := rfl
theorem g_q128 : g_cl 128 = g_k128 := rfl
theorem g_q129 : g_cl 129 = g_k129 := rfl
theorem g_q130 : g_cl 130 = g_k130 := rfl
theorem g_q131 : g_cl 131 = g_k131 := rfl
theorem g_q132 : g_cl 132 = g_k132 := rfl
theorem g_q133 : g_cl 133 = g_k133 := rfl
theorem g_q134 : g_cl 134 = g_k134 := rfl
theorem g_q135 : g_cl 135 = g_k135 := rfl
theorem g_q136 : g_cl 136 = g_k136 := rfl
theorem g_q137 : g_cl 137 = g_k137 := rfl
theorem g_q138 : g_cl 138 = g_k138 := rfl
theorem g_q139 : g_cl 139 = g_k139 := rfl
theorem g_q140 : g_cl 140 = g_k140 := rfl
theorem g_q141 : g_cl 141 = g_k141 := rfl
theorem g_q142 : g_cl 142 = g_k142 := rfl
theorem g_q143 : g_cl 143 = g_k143 := rfl
theorem g_q144 : g_cl 144 = g_k144 := rfl
theorem g_q145 : g_cl 145 = g_k145 := rfl
theorem g_q146 : g_cl 146 = g_k146 := rfl
theorem g_q147 : g_cl 147 = g_k147 := rfl
theorem g_q148 : g_cl 148 = g_k148 := rfl
theorem g_q149 : g_cl 149 = g_k149 := rfl
theorem g_q150 : g_cl 150 = g_k150 := rfl
theorem g_q151 : g_cl 151 = g_k151 := rfl
theorem g_q152 : g_cl 152 = g_k152 := rfl
theorem g_q153 : g_cl 153 = g_k153 := rfl
theorem g_q154 : g_cl 154 = g_k154 := rfl
theorem g_q155 : g_cl 155 = g_k155 := rfl
theorem g_q156 : g_cl 156 = g_k156 := rfl
theorem g_q157 : g_cl 157 = g_k157 := rfl
theorem g_q158 : g_cl 158 = g_k158 := rfl
theorem g_q159 : g_cl 159 = g_k159 := rfl
theorem g_q160 : g_cl 160 = g_k160 := rfl
theorem g_q161 : g_cl 161 = g_k161 := rfl
theorem g_q162 : g_cl 162 = g_k162 := rfl
theorem g_q163 : g_cl 163 = g_k163 := rfl
theorem g_q164 : g_cl 164 = g_k164 := rfl
theorem g_q165 : g_cl 165 = g_k165 := rfl
theorem g_q166 : g_cl 166 = g_k166 := rfl
theorem g_q167 : g_cl 167 = g_k167 := rfl
theorem g_q168 : g_cl 168 = g_k168 := rfl
theorem g_q169 : g_cl 169 = g_k169 := rfl
theorem g_q170 : g_cl 170 = g_k170 := rfl
theorem g_q171 : g_cl 171 = g_k171 := rfl
theorem g_q172 : g_cl 172 = g_k172 := rfl
theorem g_q173 : g_cl 173 = g_k173 := rfl
theorem g_q174 : g_cl 174 = g_k174 := rfl
theorem g_q175 : g_cl 175 = g_k175 := rfl
theorem g_q176 : g_cl 176 = g_k176 := rfl
theorem g_q177 : g_cl 177 = g_k177 := rfl
theorem g_q178 : g_cl 178 = g_k178 := rfl
theorem g_q179 : g_cl 179 = g_k179 := rfl
theorem g_q180 : g_cl 180 = g_k180 := rfl
theorem g_q181 : g_cl 181 = g_k181 := rfl
theorem g_q182 : g_cl 182 = g_k182 := rfl
theorem g_q183 : g_cl 183 = g_k183 := rfl
theorem g_q184 : g_cl 184 = g_k184 := rfl
theorem g_q185 : g_cl 185 = g_k185 := rfl
theorem g_q186 : g_cl 186 = g_k186 := rfl
theorem g_q187 : g_cl 187 = g_k187 := rfl
theorem g_q188 : g_cl 188 = g_k188 := rfl
theorem g_q189 : g_cl 189 = g_k189 := rfl
theorem g_q190 : g_cl 190 = g_k190 := rfl
theorem g_q191 : g_cl 191 = g_k191 := rfl
theorem g_q192 : g_cl 192 = g_k192 := rfl
theorem g_q193 : g_cl 193 = g_k193 := rfl
end
section
/-! what must hold of the tables: decoded, and linked by words of the statement; by program -/
def g_nest : List Cond := [(Jvm.Cond.fieldLinkNest "DialTown" (279 : Nat) "DialTown$Tape" "length" "I" "DialTown"), (Jvm.Cond.fieldLinkNest "DialTown" (141 : Nat) "DialTown$Town" "stands" "Z" "DialTown"), (Jvm.Cond.fieldLinkNest "DialTown$Dial" (49 : Nat) "DialTown$Town" "towerX" "I" "DialTown"), (Jvm.Cond.fieldLinkNest "DialTown$Dial" (52 : Nat) "DialTown$Town" "towerY" "I" "DialTown"), (Jvm.Cond.fieldLinkNest "DialTown$Dial" (25 : Nat) "DialTown$Town" "reach" "I" "DialTown"), (Jvm.Cond.fieldLinkNest "DialTown$Dial" (33 : Nat) "DialTown$Town" "season" "I" "DialTown"), (Jvm.Cond.fieldLinkNest "DialTown" (146 : Nat) "DialTown$Town" "season" "I" "DialTown"), (Jvm.Cond.fieldLinkNest "DialTown$Dial" (30 : Nat) "DialTown$Town" "leanEast" "I" "DialTown"), (Jvm.Cond.fieldLinkNest "DialTown$Dial" (36 : Nat) "DialTown$Town" "leanNorth" "I" "DialTown"), (Jvm.Cond.fieldLinkNest "DialTown" (276 : Nat) "DialTown$Town" "walls" "I" "DialTown"), (Jvm.Cond.fieldLinkNest "DialTown$Reader" (59 : Nat) "DialTown$Town" "shops" "I" "DialTown"), (Jvm.Cond.fieldLinkNest "DialTown$Dial" (70 : Nat) "DialTown$Town" "shops" "I" "DialTown"), (Jvm.Cond.fieldLinkNest "DialTown$Walker" (57 : Nat) "DialTown$Town" "shops" "I" "DialTown"), (Jvm.Cond.fieldLinkNest "DialTown" (138 : Nat) "DialTown$Town" "shops" "I" "DialTown"), (Jvm.Cond.fieldLinkNest "DialTown$Dial" (63 : Nat) "DialTown$Town" "clouds" "[I" "DialTown"), (Jvm.Cond.fieldLinkNest "DialTown" (159 : Nat) "DialTown$Town" "clouds" "[I" "DialTown"), (Jvm.Cond.fieldLinkNest "DialTown$Dial" (73 : Nat) "DialTown$Town" "sorts" "[I" "DialTown"), (Jvm.Cond.fieldLinkNest "DialTown$Dial" (76 : Nat) "DialTown$Town" "cells" "[I" "DialTown"), (Jvm.Cond.fieldLinkNest "DialTown$Walker" (60 : Nat) "DialTown$Town" "cells" "[I" "DialTown"), (Jvm.Cond.fieldLinkNest "DialTown$Asker" (43 : Nat) "DialTown$Town" "cells" "[I" "DialTown"), (Jvm.Cond.fieldLinkNest "DialTown" (200 : Nat) "DialTown$Town" "cells" "[I" "DialTown"), (Jvm.Cond.fieldLinkNest "DialTown$Asker" (40 : Nat) "DialTown$Town" "rents" "[I" "DialTown"), (Jvm.Cond.fieldLinkNest "DialTown" (203 : Nat) "DialTown$Town" "rents" "[I" "DialTown"), (Jvm.Cond.fieldLinkNest "DialTown" (127 : Nat) "DialTown$Reader" "faultNumber" "I" "DialTown"), (Jvm.Cond.fieldLinkNest "DialTown" (131 : Nat) "DialTown$Reader" "faultPlace" "I" "DialTown"), (Jvm.Cond.fieldLinkNest "DialTown" (222 : Nat) "DialTown$Dial" "day" "[I" "DialTown"), (Jvm.Cond.fieldLinkNest "DialTown" (251 : Nat) "DialTown$Dial" "hours" "[I" "DialTown"), (Jvm.Cond.fieldLinkNest "DialTown" (241 : Nat) "DialTown$Walker" "visited" "I" "DialTown"), (Jvm.Cond.fieldLinkNest "DialTown" (270 : Nat) "DialTown$Asker" "trail" "[I" "DialTown"), (Jvm.Cond.fieldLinkNest "DialTown" (267 : Nat) "DialTown$Asker" "traced" "I" "DialTown"), (Jvm.Cond.methodLinkNest "DialTown$Town" (75 : Nat) ({ cls := "DialTown", name := "cellAt", desc := "(II)I" } : Jvm.MethodName) "DialTown"), (Jvm.Cond.methodLinkNest "DialTown$Reader" (121 : Nat) ({ cls := "DialTown", name := "cellAt", desc := "(II)I" } : Jvm.MethodName) "DialTown"), (Jvm.Cond.methodLinkNest "DialTown$Reader" (102 : Nat) ({ cls := "DialTown", name := "isSort", desc := "(I)Z" } : Jvm.MethodName) "DialTown"), (Jvm.Cond.methodLinkNest "DialTown$Dial" (55 : Nat) ({ cls := "DialTown", name := "cellAt", desc := "(II)I" } : Jvm.MethodName) "DialTown"), (Jvm.Cond.methodLinkNest "DialTown$Walker" (91 : Nat) ({ cls := "DialTown", name := "cellAt", desc := "(II)I" } : Jvm.MethodName) "DialTown")]
def g_sk : List (Nat × String) := [(74, "tower"), (53, "wall"), (65, "shop"), (111, "dark"), (113, "sunny"), (115, "noon"), (117, "mass"), (119, "lamp")]
def g_st : List (String × String) := [("DialTown$Walker", "EAST"), ("DialTown$Walker", "SOUTH"), ("DialTown$Town", "KIND_OF_SORT"), ("DialTown$Asker", "IS"), ("DialTown$Asker", "SIZE_BODY"), ("DialTown$Asker", "MARK_BODY")]
def g_in (w : Jvm.Cond) : Bool := goodWord w && lw_tbl.any (fun c => decide (c = w))
def g_inN (w : Jvm.Cond) : Bool := g_nest.any (fun c => decide (c = w))
def g_C (ci : Nat) : vw_C := g_at0 vwCl ci ("", TX0, 0)
def g_okx (own : String) (ml pc : Nat) (i : Instr) (n : Nat) (x : g_X) (rt : Option FieldType) : Bool := match i with
  | .iconst v => n == 1 && decide (Int32.ofInt v = x.2.2.1)
  | .bipush v => n == 2 && decide ((Int8.ofInt v).toInt32 = x.2.2.1)
  | .sipush v => n == 3 && decide ((Int16.ofInt v).toInt32 = x.2.2.1)
  | .ldc k => n == 2 && (match x.2.1 with
    | 0 => g_in (.constant own k x.2.2.1)
    | _ => decide (20 ≤ x.1) && decide (x.1 < 28) && decide (own = "DialTown$Reader") && decide ((g_at0 g_sk (x.1 - 20) (0, "")).1 = k))
  | .ldc_w k => n == 3 && g_in (.constant own k x.2.2.1)
  | .lconst v => n == 1 && decide (Int64.ofNat v.val = x.2.2.2.1)
  | .ldc2_w k => n == 3 && g_in (.constantLong own k x.2.2.2.1)
  | .iload _ | .lload _ | .aload _ => n == 2
  | .iload_n _ | .lload_n _ | .aload_n _ => n == 1
  | .istore k | .astore k => n == 2 && decide (k < ml)
  | .istore_n k | .astore_n k => n == 1 && decide (k.val < ml)
  | .lstore k => n == 2 && decide (k + 1 < ml)
  | .lstore_n k => n == 1 && decide (k.val + 1 < ml)
  | .iinc k v => n == 3 && decide (k < ml) && decide (Int32.ofInt v = x.2.2.1)
  | .ifCond _ o => n == 3 && decide ((pc : Int) + o = (x.1 : Int))
  | .if_icmp _ o => n == 3 && decide ((pc : Int) + o = (x.1 : Int))
  | .goto o => n == 3 && decide ((pc : Int) + o = (x.1 : Int))
  | .tableswitch d lo hi offs => decide ((pc : Int) + d = (x.1 : Int)) && decide (lo = (x.2.1 : Int)) && decide (hi < lo + x.2.2.2.2.length) && decide (x.2.1 + x.2.2.2.2.length < 2147483648) && decide (offs.toList.map (fun o => (pc : Int) + o) = x.2.2.2.2.map (fun (t : Nat) => (t : Int)))
  | .getstatic k => n == 3 && (match x.2.2.2.2 with
    | [] => (decide (x.1 < 6) && g_in (.fieldLink own k (g_at0 g_st x.1 ("", "")).1 (g_at0 g_st x.1 ("", "")).2 "[I")) || (decide (x.1 = 77) && g_in (.fieldLink own k "jdk/internal/util/Preconditions" "SIOOBE_FORMATTER" "Ljava/util/function/BiFunction;"))
    | _ => decide (x.2.2.1 = 1) && g_in (.fieldLink own k "java/lang/String" "COMPACT_STRINGS" "Z"))
  | .getfield k => n == 3 && ((decide (x.1 < 9) && decide (x.2.1 < (g_C x.1).2.2) && (g_in (.fieldLink own k ((g_C x.1).2.1 x.2.1).1 ((g_C x.1).2.1 x.2.1).2.1 ((g_C x.1).2.1 x.2.1).2.2.1) || g_inN (.fieldLinkNest own k ((g_C x.1).2.1 x.2.1).1 ((g_C x.1).2.1 x.2.1).2.1 ((g_C x.1).2.1 x.2.1).2.2.1 "DialTown")))
      || (decide (x.1 = 9) && ((decide (x.2.1 = 0) && g_in (.fieldLink own k "java/lang/String" "value" "[B")) || (decide (x.2.1 = 1) && g_in (.fieldLink own k "java/lang/String" "coder" "B")))))
  | .putfield k => n == 3 && decide (x.1 < 9) && decide (x.2.1 < (g_C x.1).2.2) && !g_rf x.1 x.2.1 && !((g_C x.1).2.1 x.2.1).2.2.2 && decide (((g_C x.1).2.1 x.2.1).2.2.1 = bif g_bz x.1 x.2.1 then "Z" else "I")
      && (g_in (.fieldLink own k ((g_C x.1).2.1 x.2.1).1 ((g_C x.1).2.1 x.2.1).2.1 ((g_C x.1).2.1 x.2.1).2.2.1) || g_inN (.fieldLinkNest own k ((g_C x.1).2.1 x.2.1).1 ((g_C x.1).2.1 x.2.1).2.1 ((g_C x.1).2.1 x.2.1).2.2.1 "DialTown"))
  | .invokevirtual k => n == 3 && decide (0 < x.1) && decide (x.1 < 194) && decide ((parseMethodDescriptor (g_y x.1).desc).map (fun d => d.parameters.length) = some x.2.1) && g_in (.instanceMethod (g_y x.1)) && g_in (.selects (g_y x.1).cls (g_y x.1) (g_y x.1)) && (g_in (.methodLink own k (g_y x.1)) || g_inN (.methodLinkNest own k (g_y x.1) "DialTown"))
      && (decide ((g_C (g_mc x.1)).1 = (g_y x.1).cls) && decide (g_mc x.1 < 9) || (decide (g_mc x.1 = 9) && decide ((g_y x.1).cls = "java/lang/String")))
  | .invokestatic k => n == 3 && (match x.2.2.2.2 with
    | [] => decide (0 < x.1) && decide (x.1 < 194) && decide ((parseMethodDescriptor (g_y x.1).desc).map (fun d => d.parameters.length) = some x.2.1) && g_in (.static (g_y x.1)) && (g_in (.methodLink own k (g_y x.1)) || g_inN (.methodLinkNest own k (g_y x.1) "DialTown"))
    | f :: _ => g_in (.methodLink own k (match f with
      | 1 => arraycopyName
      | 2 => Lib.Math.max.name
      | 3 => Lib.Math.min.name
      | _ => Lib.Math.abs.name)))
  | .ireturn => n == 1 && decide (rt = some (g_ty x.1))
  | .lreturn => n == 1 && decide (rt = some .long)
  | .return_ => n == 1 && decide (rt = none)
  | .iadd | .isub | .imul | .iand | .ior | .ixor | .ishl | .ishr | .idiv | .irem | .ineg | .i2b | .i2s | .i2c | .i2l | .l2i | .ladd | .lmul | .land | .lor | .lrem | .lshl | .lshr | .lushr | .lcmp | .dup | .dup2 | .pop | .iaload | .baload | .aaload | .arraylength | .iastore | .bastore => n == 1
  | _ => false
def g_okI (M : Nat) (q : Nat × g_I) : Bool := decide (decode (g_by M) q.1 = .ok (q.2.1, q.2.2.1)) && g_okx (g_y M).cls (g_ml M) q.1 q.2.1 q.2.2.1 q.2.2.2 (g_rt M)
/-- of a method: its words -/
def g_okM (M : Nat) : Bool := g_in (.code (g_y M) (g_by M) (g_ml M) (g_rt M)) && g_in (.initialized (g_y M).cls) && decide ((g_y M).cls ≠ "java/lang/invoke/MethodHandle") && decide ((g_y M).cls ≠ "java/lang/invoke/VarHandle") && plainName (g_y M).cls && decide (g_ml M ≤ 20)
theorem g_spl {α : Type} {l : List α} {p : α → Bool} (n : Nat) (h1 : (l.take n).all p = true) (h2 : (l.drop n).all p = true) : l.all p = true := by
  rw [← List.take_append_drop n l, List.all_append, h1, h2]; rfl
theorem g_spl2 {α : Type} {l : List α} {p : α → Bool} (a n : Nat) (h1 : ((l.drop a).take n).all p = true) (h2 : (l.drop (a + n)).all p = true) : (l.drop a).all p = true :=
  g_spl n h1 (by rw [List.drop_drop]; exact h2)
end
section
set_option maxRecDepth 100000 in
theorem g_ok193 : g_k193.all (g_okI 193) = true := by decide +kernel
theorem g_om193 : g_okM 193 = true := by decide +kernel
set_option maxRecDepth 100000 in
theorem g_ok192 : g_k192.all (g_okI 192) = true := by decide +kernel
theorem g_om192 : g_okM 192 = true := by decide +kernel
set_option maxRecDepth 100000 in
theorem g_ok191 : g_k191.all (g_okI 191) = true := by decide +kernel
theorem g_om191 : g_okM 191 = true := by decide +kernel
set_option maxRecDepth 100000 in
theorem g_ok190 : g_k190.all (g_okI 190) = true := by decide +kernel
theorem g_om190 : g_okM 190 = true := by decide +kernel
set_option maxRecDepth 100000 in
theorem g_ok189 : g_k189.all (g_okI 189) = true := by decide +kernel
theorem g_om189 : g_okM 189 = true := by decide +kernel
set_option maxRecDepth 100000 in
theorem g_ok188 : g_k188.all (g_okI 188) = true := by decide +kernel
theorem g_om188 : g_okM 188 = true := by decide +kernel
set_option maxRecDepth 100000 in
theorem g_ok187 : g_k187.all (g_okI 187) = true := by decide +kernel
theorem g_om187 : g_okM 187 = true := by decide +kernel
set_option maxRecDepth 100000 in
theorem g_ok186 : g_k186.all (g_okI 186) = true := by decide +kernel
theorem g_om186 : g_okM 186 = true := by decide +kernel
set_option maxRecDepth 100000 in
theorem g_ok185 : g_k185.all (g_okI 185) = true := by decide +kernel
theorem g_om185 : g_okM 185 = true := by decide +kernel
set_option maxRecDepth 100000 in
theorem g_ok184_0 : (g_k184.take 60).all (g_okI 184) = true := by decide +kernel
set_option maxRecDepth 100000 in
theorem g_ok184_1 : (g_k184.drop 60).all (g_okI 184) = true := by decide +kernel
theorem g_ok184 : g_k184.all (g_okI 184) = true := (g_spl 60 g_ok184_0 (g_ok184_1))
theorem g_om184 : g_okM 184 = true := by decide +kernel
set_option maxRecDepth 100000 in
theorem g_ok183 : g_k183.all (g_okI 183) = true := by decide +kernel
theorem g_om183 : g_okM 183 = true := by decide +kernel
set_option maxRecDepth 100000 in
theorem g_ok182 : g_k182.all (g_okI 182) = true := by decide +kernel
theorem g_om182 : g_okM 182 = true := by decide +kernel
set_option maxRecDepth 100000 in
theorem g_ok181 : g_k181.all (g_okI 181) = true := by decide +kernel
theorem g_om181 : g_okM 181 = true := by decide +kernel
set_option maxRecDepth 100000 in
theorem g_ok180 : g_k180.all (g_okI 180) = true := by decide +kernel
theorem g_om180 : g_okM 180 = true := by decide +kernel
end
section
set_option maxRecDepth 100000 in
theorem g_ok179 : g_k179.all (g_okI 179) = true := by decide +kernel
theorem g_om179 : g_okM 179 = true := by decide +kernel
set_option maxRecDepth 100000 in
theorem g_ok178 : g_k178.all (g_okI 178) = true := by decide +kernel
theorem g_om178 : g_okM 178 = true := by decide +kernel
set_option maxRecDepth 100000 in
theorem g_ok177 : g_k177.all (g_okI 177) = true := by decide +kernel
theorem g_om177 : g_okM 177 = true := by decide +kernel
set_option maxRecDepth 100000 in
theorem g_ok176 : g_k176.all (g_okI 176) = true := by decide +kernel
theorem g_om176 : g_okM 176 = true := by decide +kernel
set_option maxRecDepth 100000 in
theorem g_ok175 : g_k175.all (g_okI 175) = true := by decide +kernel
theorem g_om175 : g_okM 175 = true := by decide +kernel
set_option maxRecDepth 100000 in
theorem g_ok174 : g_k174.all (g_okI 174) = true := by decide +kernel
theorem g_om174 : g_okM 174 = true := by decide +kernel
set_option maxRecDepth 100000 in
theorem g_ok173 : g_k173.all (g_okI 173) = true := by decide +kernel
theorem g_om173 : g_okM 173 = true := by decide +kernel
set_option maxRecDepth 100000 in
theorem g_ok172 : g_k172.all (g_okI 172) = true := by decide +kernel
theorem g_om172 : g_okM 172 = true := by decide +kernel
set_option maxRecDepth 100000 in
theorem g_ok171 : g_k171.all (g_okI 171) = true := by decide +kernel
theorem g_om171 : g_okM 171 = true := by decide +kernel
set_option maxRecDepth 100000 in
theorem g_ok170_0 : (g_k170.take 60).all (g_okI 170) = true := by decide +kernel
set_option maxRecDepth 100000 in
theorem g_ok170_1 : (g_k170.drop 60).all (g_okI 170) = true := by decide +kernel
theorem g_ok170 : g_k170.all (g_okI 170) = true := (g_spl 60 g_ok170_0 (g_ok170_1))
theorem g_om170 : g_okM 170 = true := by decide +kernel
set_option maxRecDepth 100000 in
theorem g_ok169_0 : (g_k169.take 60).all (g_okI 169) = true := by decide +kernel
set_option maxRecDepth 100000 in
theorem g_ok169_1 : (g_k169.drop 60).all (g_okI 169) = true := by decide +kernel
theorem g_ok169 : g_k169.all (g_okI 169) = true := (g_spl 60 g_ok169_0 (g_ok169_1))
theorem g_om169 : g_okM 169 = true := by decide +kernel
end
section
set_option maxRecDepth 100000 in
theorem g_ok168_0 : (g_k168.take 60).all (g_okI 168) = true := by decide +kernel
set_option maxRecDepth 100000 in
theorem g_ok168_1 : ((g_k168.drop 60).take 60).all (g_okI 168) = true := by decide +kernel
set_option maxRecDepth 100000 in
theorem g_ok168_2 : (g_k168.drop 120).all (g_okI 168) = true := by decide +kernel
theorem g_ok168 : g_k168.all (g_okI 168) = true := (g_spl 60 g_ok168_0 ((g_spl2 60 60 g_ok168_1 (g_ok168_2))))
theorem g_om168 : g_okM 168 = true := by decide +kernel
set_option maxRecDepth 100000 in
theorem g_ok167 : g_k167.all (g_okI 167) = true := by decide +kernel
theorem g_om167 : g_okM 167 = true := by decide +kernel
set_option maxRecDepth 100000 in
theorem g_ok166_0 : (g_k166.take 60).all (g_okI 166) = true := by decide +kernel
set_option maxRecDepth 100000 in
theorem g_ok166_1 : ((g_k166.drop 60).take 60).all (g_okI 166) = true := by decide +kernel
set_option maxRecDepth 100000 in
theorem g_ok166_2 : (g_k166.drop 120).all (g_okI 166) = true := by decide +kernel
theorem g_ok166 : g_k166.all (g_okI 166) = true := (g_spl 60 g_ok166_0 ((g_spl2 60 60 g_ok166_1 (g_ok166_2))))
theorem g_om166 : g_okM 166 = true := by decide +kernel
set_option maxRecDepth 100000 in
theorem g_ok165 : g_k165.all (g_okI 165) = true := by decide +kernel
theorem g_om165 : g_okM 165 = true := by decide +kernel
set_option maxRecDepth 100000 in
theorem g_ok164_0 : (g_k164.take 60).all (g_okI 164) = true := by decide +kernel
set_option maxRecDepth 100000 in
theorem g_ok164_1 : (g_k164.drop 60).all (g_okI 164) = true := by decide +kernel
theorem g_ok164 : g_k164.all (g_okI 164) = true := (g_spl 60 g_ok164_0 (g_ok164_1))
theorem g_om164 : g_okM 164 = true := by decide +kernel
end
section
set_option maxRecDepth 100000 in
theorem g_ok163_0 : (g_k163.take 60).all (g_okI 163) = true := by decide +kernel
set_option maxRecDepth 100000 in
theorem g_ok163_1 : (g_k163.drop 60).all (g_okI 163) = true := by decide +kernel
theorem g_ok163 : g_k163.all (g_okI 163) = true := (g_spl 60 g_ok163_0 (g_ok163_1))
theorem g_om163 : g_okM 163 = true := by decide +kernel
set_option maxRecDepth 100000 in
theorem g_ok162 : g_k162.all (g_okI 162) = true := by decide +kernel
theorem g_om162 : g_okM 162 = true := by decide +kernel
set_option maxRecDepth 100000 in
theorem g_ok161 : g_k161.all (g_okI 161) = true := by decide +kernel
theorem g_om161 : g_okM 161 = true := by decide +kernel
set_option maxRecDepth 100000 in
theorem g_ok160_0 : (g_k160.take 60).all (g_okI 160) = true := by decide +kernel
set_option maxRecDepth 100000 in
theorem g_ok160_1 : (g_k160.drop 60).all (g_okI 160) = true := by decide +kernel
theorem g_ok160 : g_k160.all (g_okI 160) = true := (g_spl 60 g_ok160_0 (g_ok160_1))
theorem g_om160 : g_okM 160 = true := by decide +kernel
set_option maxRecDepth 100000 in
theorem g_ok159_0 : (g_k159.take 60).all (g_okI 159) = true := by decide +kernel
set_option maxRecDepth 100000 in
theorem g_ok159_1 : (g_k159.drop 60).all (g_okI 159) = true := by decide +kernel
theorem g_ok159 : g_k159.all (g_okI 159) = true := (g_spl 60 g_ok159_0 (g_ok159_1))
theorem g_om159 : g_okM 159 = true := by decide +kernel
set_option maxRecDepth 100000 in
theorem g_ok158 : g_k158.all (g_okI 158) = true := by decide +kernel
theorem g_om158 : g_okM 158 = true := by decide +kernel
set_option maxRecDepth 100000 in
theorem g_ok157 : g_k157.all (g_okI 157) = true := by decide +kernel
theorem g_om157 : g_okM 157 = true := by decide +kernel
set_option maxRecDepth 100000 in
theorem g_ok156 : g_k156.all (g_okI 156) = true := by decide +kernel
theorem g_om156 : g_okM 156 = true := by decide +kernel
end
section
set_option maxRecDepth 100000 in
theorem g_ok155 : g_k155.all (g_okI 155) = true := by decide +kernel
theorem g_om155 : g_okM 155 = true := by decide +kernel
set_option maxRecDepth 100000 in
theorem g_ok154 : g_k154.all (g_okI 154) = true := by decide +kernel
theorem g_om154 : g_okM 154 = true := by decide +kernel
set_option maxRecDepth 100000 in
theorem g_ok153 : g_k153.all (g_okI 153) = true := by decide +kernel
theorem g_om153 : g_okM 153 = true := by decide +kernel
set_option maxRecDepth 100000 in
theorem g_ok152 : g_k152.all (g_okI 152) = true := by decide +kernel
theorem g_om152 : g_okM 152 = true := by decide +kernel
set_option maxRecDepth 100000 in
theorem g_ok151 : g_k151.all (g_okI 151) = true := by decide +kernel
theorem g_om151 : g_okM 151 = true := by decide +kernel
set_option maxRecDepth 100000 in
theorem g_ok150 : g_k150.all (g_okI 150) = true := by decide +kernel
theorem g_om150 : g_okM 150 = true := by decide +kernel
set_option maxRecDepth 100000 in
theorem g_ok149 : g_k149.all (g_okI 149) = true := by decide +kernel
theorem g_om149 : g_okM 149 = true := by decide +kernel
set_option maxRecDepth 100000 in
theorem g_ok148_0 : (g_k148.take 60).all (g_okI 148) = true := by decide +kernel
set_option maxRecDepth 100000 in
theorem g_ok148_1 : (g_k148.drop 60).all (g_okI 148) = true := by decide +kernel
theorem g_ok148 : g_k148.all (g_okI 148) = true := (g_spl 60 g_ok148_0 (g_ok148_1))
theorem g_om148 : g_okM 148 = true := by decide +kernel
set_option maxRecDepth 100000 in
theorem g_ok147 : g_k147.all (g_okI 147) = true := by decide +kernel
theorem g_om147 : g_okM 147 = true := by decide +kernel
set_option maxRecDepth 100000 in
theorem g_ok146 : g_k146.all (g_okI 146) = true := by decide +kernel
theorem g_om146 : g_okM 146 = true := by decide +kernel
set_option maxRecDepth 100000 in
theorem g_ok145_0 : (g_k145.take 60).all (g_okI 145) = true := by decide +kernel
set_option maxRecDepth 100000 in
theorem g_ok145_1 : (g_k145.drop 60).all (g_okI 145) = true := by decide +kernel
theorem g_ok145 : g_k145.all (g_okI 145) = true := (g_spl 60 g_ok145_0 (g_ok145_1))
theorem g_om145 : g_okM 145 = true := by decide +kernel
end
section
set_option maxRecDepth 100000 in
theorem g_ok144 : g_k144.all (g_okI 144) = true := by decide +kernel
theorem g_om144 : g_okM 144 = true := by decide +kernel
set_option maxRecDepth 100000 in
theorem g_ok143 : g_k143.all (g_okI 143) = true := by decide +kernel
theorem g_om143 : g_okM 143 = true := by decide +kernel
set_option maxRecDepth 100000 in
theorem g_ok142 : g_k142.all (g_okI 142) = true := by decide +kernel
theorem g_om142 : g_okM 142 = true := by decide +kernel
set_option maxRecDepth 100000 in
theorem g_ok141 : g_k141.all (g_okI 141) = true := by decide +kernel
theorem g_om141 : g_okM 141 = true := by decide +kernel
set_option maxRecDepth 100000 in
theorem g_ok140 : g_k140.all (g_okI 140) = true := by decide +kernel
theorem g_om140 : g_okM 140 = true := by decide +kernel
set_option maxRecDepth 100000 in
theorem g_ok139 : g_k139.all (g_okI 139) = true := by decide +kernel
theorem g_om139 : g_okM 139 = true := by decide +kernel
set_option maxRecDepth 100000 in
theorem g_ok138 : g_k138.all (g_okI 138) = true := by decide +kernel
theorem g_om138 : g_okM 138 = true := by decide +kernel
set_option maxRecDepth 100000 in
theorem g_ok137 : g_k137.all (g_okI 137) = true := by decide +kernel
theorem g_om137 : g_okM 137 = true := by decide +kernel
set_option maxRecDepth 100000 in
theorem g_ok136 : g_k136.all (g_okI 136) = true := by decide +kernel
theorem g_om136 : g_okM 136 = true := by decide +kernel
set_option maxRecDepth 100000 in
theorem g_ok135 : g_k135.all (g_okI 135) = true := by decide +kernel
theorem g_om135 : g_okM 135 = true := by decide +kernel
set_option maxRecDepth 100000 in
theorem g_ok134 : g_k134.all (g_okI 134) = true := by decide +kernel
theorem g_om134 : g_okM 134 = true := by decide +kernel
set_option maxRecDepth 100000 in
theorem g_ok133 : g_k133.all (g_okI 133) = true := by decide +kernel
theorem g_om133 : g_okM 133 = true := by decide +kernel
set_option maxRecDepth 100000 in
theorem g_ok132_0 : (g_k132.take 60).all (g_okI 132) = true := by decide +kernel
set_option maxRecDepth 100000 in
theorem g_ok132_1 : (g_k132.drop 60).all (g_okI 132) = true := by decide +kernel
theorem g_ok132 : g_k132.all (g_okI 132) = true := (g_spl 60 g_ok132_0 (g_ok132_1))
theorem g_om132 : g_okM 132 = true := by decide +kernel
end
section
set_option maxRecDepth 100000 in
theorem g_ok131_0 : (g_k131.take 60).all (g_okI 131) = true := by decide +kernel
set_option maxRecDepth 100000 in
theorem g_ok131_1 : (g_k131.drop 60).all (g_okI 131) = true := by decide +kernel
theorem g_ok131 : g_k131.all (g_okI 131) = true := (g_spl 60 g_ok131_0 (g_ok131_1))
theorem g_om131 : g_okM 131 = true := by decide +kernel
set_option maxRecDepth 100000 in
theorem g_ok130_0 : (g_k130.take 60).all (g_okI 130) = true := by decide +kernel
set_option maxRecDepth 100000 in
theorem g_ok130_1 : (g_k130.drop 60).all (g_okI 130) = true := by decide +kernel
theorem g_ok130 : g_k130.all (g_okI 130) = true := (g_spl 60 g_ok130_0 (g_ok130_1))
theorem g_om130 : g_okM 130 = true := by decide +kernel
set_option maxRecDepth 100000 in
theorem g_ok129 : g_k129.all (g_okI 129) = true := by decide +kernel
theorem g_om129 : g_okM 129 = true := by decide +kernel
set_option maxRecDepth 100000 in
theorem g_ok128 : g_k128.all (g_okI 128) = true := by decide +kernel
theorem g_om128 : g_okM 128 = true := by decide +kernel
set_option maxRecDepth 100000 in
theorem g_ok127 : g_k127.all (g_okI 127) = true := by decide +kernel
theorem g_om127 : g_okM 127 = true := by decide +kernel
set_option maxRecDepth 100000 in
theorem g_ok126 : g_k126.all (g_okI 126) = true := by decide +kernel
theorem g_om126 : g_okM 126 = true := by decide +kernel
set_option maxRecDepth 100000 in
theorem g_ok125 : g_k125.all (g_okI 125) = true := by decide +kernel
theorem g_om125 : g_okM 125 = true := by decide +kernel
set_option maxRecDepth 100000 in
theorem g_ok124 : g_k124.all (g_okI 124) = true := by decide +kernel
theorem g_om124 : g_okM 124 = true := by decide +kernel
end
section
set_option maxRecDepth 100000 in
theorem g_ok123 : g_k123.all (g_okI 123) = true := by decide +kernel
theorem g_om123 : g_okM 123 = true := by decide +kernel
set_option maxRecDepth 100000 in
theorem g_ok122 : g_k122.all (g_okI 122) = true := by decide +kernel
theorem g_om122 : g_okM 122 = true := by decide +kernel
set_option maxRecDepth 100000 in
theorem g_ok121 : g_k121.all (g_okI 121) = true := by decide +kernel
theorem g_om121 : g_okM 121 = true := by decide +kernel
set_option maxRecDepth 100000 in
theorem g_ok120 : g_k120.all (g_okI 120) = true := by decide +kernel
theorem g_om120 : g_okM 120 = true := by decide +kernel
set_option maxRecDepth 100000 in
theorem g_ok119 : g_k119.all (g_okI 119) = true := by decide +kernel
theorem g_om119 : g_okM 119 = true := by decide +kernel
set_option maxRecDepth 100000 in
theorem g_ok118_0 : (g_k118.take 60).all (g_okI 118) = true := by decide +kernel
set_option maxRecDepth 100000 in
theorem g_ok118_1 : (g_k118.drop 60).all (g_okI 118) = true := by decide +kernel
theorem g_ok118 : g_k118.all (g_okI 118) = true := (g_spl 60 g_ok118_0 (g_ok118_1))
theorem g_om118 : g_okM 118 = true := by decide +kernel
set_option maxRecDepth 100000 in
theorem g_ok117 : g_k117.all (g_okI 117) = true := by decide +kernel
theorem g_om117 : g_okM 117 = true := by decide +kernel
set_option maxRecDepth 100000 in
theorem g_ok116 : g_k116.all (g_okI 116) = true := by decide +kernel
theorem g_om116 : g_okM 116 = true := by decide +kernel
set_option maxRecDepth 100000 in
theorem g_ok115 : g_k115.all (g_okI 115) = true := by decide +kernel
theorem g_om115 : g_okM 115 = true := by decide +kernel
set_option maxRecDepth 100000 in
theorem g_ok114 : g_k114.all (g_okI 114) = true := by decide +kernel
theorem g_om114 : g_okM 114 = true := by decide +kernel
set_option maxRecDepth 100000 in
theorem g_ok113 : g_k113.all (g_okI 113) = true := by decide +kernel
theorem g_om113 : g_okM 113 = true := by decide +kernel
end
section
set_option maxRecDepth 100000 in
theorem g_ok112_0 : (g_k112.take 60).all (g_okI 112) = true := by decide +kernel
set_option maxRecDepth 100000 in
theorem g_ok112_1 : ((g_k112.drop 60).take 60).all (g_okI 112) = true := by decide +kernel
set_option maxRecDepth 100000 in
theorem g_ok112_2 : (g_k112.drop 120).all (g_okI 112) = true := by decide +kernel
theorem g_ok112 : g_k112.all (g_okI 112) = true := (g_spl 60 g_ok112_0 ((g_spl2 60 60 g_ok112_1 (g_ok112_2))))
theorem g_om112 : g_okM 112 = true := by decide +kernel
set_option maxRecDepth 100000 in
theorem g_ok111_0 : (g_k111.take 60).all (g_okI 111) = true := by decide +kernel
set_option maxRecDepth 100000 in
theorem g_ok111_1 : (g_k111.drop 60).all (g_okI 111) = true := by decide +kernel
theorem g_ok111 : g_k111.all (g_okI 111) = true := (g_spl 60 g_ok111_0 (g_ok111_1))
theorem g_om111 : g_okM 111 = true := by decide +kernel
set_option maxRecDepth 100000 in
theorem g_ok110 : g_k110.all (g_okI 110) = true := by decide +kernel
theorem g_om110 : g_okM 110 = true := by decide +kernel
set_option maxRecDepth 100000 in
theorem g_ok109 : g_k109.all (g_okI 109) = true := by decide +kernel
theorem g_om109 : g_okM 109 = true := by decide +kernel
set_option maxRecDepth 100000 in
theorem g_ok108 : g_k108.all (g_okI 108) = true := by decide +kernel
theorem g_om108 : g_okM 108 = true := by decide +kernel
set_option maxRecDepth 100000 in
theorem g_ok107 : g_k107.all (g_okI 107) = true := by decide +kernel
theorem g_om107 : g_okM 107 = true := by decide +kernel
set_option maxRecDepth 100000 in
theorem g_ok106 : g_k106.all (g_okI 106) = true := by decide +kernel
theorem g_om106 : g_okM 106 = true := by decide +kernel
set_option maxRecDepth 100000 in
theorem g_ok105 : g_k105.all (g_okI 105) = true := by decide +kernel
theorem g_om105 : g_okM 105 = true := by decide +kernel
set_option maxRecDepth 100000 in
theorem g_ok104 : g_k104.all (g_okI 104) = true := by decide +kernel
theorem g_om104 : g_okM 104 = true := by decide +kernel
set_option maxRecDepth 100000 in
theorem g_ok103 : g_k103.all (g_okI 103) = true := by decide +kernel
theorem g_om103 : g_okM 103 = true := by decide +kernel
set_option maxRecDepth 100000 in
theorem g_ok102 : g_k102.all (g_okI 102) = true := by decide +kernel
theorem g_om102 : g_okM 102 = true := by decide +kernel
end
section
set_option maxRecDepth 100000 in
theorem g_ok101 : g_k101.all (g_okI 101) = true := by decide +kernel
theorem g_om101 : g_okM 101 = true := by decide +kernel
set_option maxRecDepth 100000 in
theorem g_ok100 : g_k100.all (g_okI 100) = true := by decide +kernel
theorem g_om100 : g_okM 100 = true := by decide +kernel
set_option maxRecDepth 100000 in
theorem g_ok99 : g_k99.all (g_okI 99) = true := by decide +kernel
theorem g_om99 : g_okM 99 = true := by decide +kernel
set_option maxRecDepth 100000 in
theorem g_ok98 : g_k98.all (g_okI 98) = true := by decide +kernel
theorem g_om98 : g_okM 98 = true := by decide +kernel
set_option maxRecDepth 100000 in
theorem g_ok97 : g_k97.all (g_okI 97) = true := by decide +kernel
theorem g_om97 : g_okM 97 = true := by decide +kernel
set_option maxRecDepth 100000 in
theorem g_ok96 : g_k96.all (g_okI 96) = true := by decide +kernel
theorem g_om96 : g_okM 96 = true := by decide +kernel
set_option maxRecDepth 100000 in
theorem g_ok95 : g_k95.all (g_okI 95) = true := by decide +kernel
theorem g_om95 : g_okM 95 = true := by decide +kernel
set_option maxRecDepth 100000 in
theorem g_ok94 : g_k94.all (g_okI 94) = true := by decide +kernel
theorem g_om94 : g_okM 94 = true := by decide +kernel
set_option maxRecDepth 100000 in
theorem g_ok93 : g_k93.all (g_okI 93) = true := by decide +kernel
theorem g_om93 : g_okM 93 = true := by decide +kernel
set_option maxRecDepth 100000 in
theorem g_ok92 : g_k92.all (g_okI 92) = true := by decide +kernel
theorem g_om92 : g_okM 92 = true := by decide +kernel
set_option maxRecDepth 100000 in
theorem g_ok91 : g_k91.all (g_okI 91) = true := by decide +kernel
theorem g_om91 : g_okM 91 = true := by decide +kernel
set_option maxRecDepth 100000 in
theorem g_ok90 : g_k90.all (g_okI 90) = true := by decide +kernel
theorem g_om90 : g_okM 90 = true := by decide +kernel
set_option maxRecDepth 100000 in
theorem g_ok89 : g_k89.all (g_okI 89) = true := by decide +kernel
theorem g_om89 : g_okM 89 = true := by decide +kernel
set_option maxRecDepth 100000 in
theorem g_ok88 : g_k88.all (g_okI 88) = true := by decide +kernel
theorem g_om88 : g_okM 88 = true := by decide +kernel
end
section
set_option maxRecDepth 100000 in
theorem g_ok87 : g_k87.all (g_okI 87) = true := by decide +kernel
theorem g_om87 : g_okM 87 = true := by decide +kernel
set_option maxRecDepth 100000 in
theorem g_ok86_0 : (g_k86.take 60).all (g_okI 86) = true := by decide +kernel
set_option maxRecDepth 100000 in
theorem g_ok86_1 : (g_k86.drop 60).all (g_okI 86) = true := by decide +kernel
theorem g_ok86 : g_k86.all (g_okI 86) = true := (g_spl 60 g_ok86_0 (g_ok86_1))
theorem g_om86 : g_okM 86 = true := by decide +kernel
set_option maxRecDepth 100000 in
theorem g_ok85 : g_k85.all (g_okI 85) = true := by decide +kernel
theorem g_om85 : g_okM 85 = true := by decide +kernel
set_option maxRecDepth 100000 in
theorem g_ok84 : g_k84.all (g_okI 84) = true := by decide +kernel
theorem g_om84 : g_okM 84 = true := by decide +kernel
set_option maxRecDepth 100000 in
theorem g_ok83 : g_k83.all (g_okI 83) = true := by decide +kernel
theorem g_om83 : g_okM 83 = true := by decide +kernel
set_option maxRecDepth 100000 in
theorem g_ok82 : g_k82.all (g_okI 82) = true := by decide +kernel
theorem g_om82 : g_okM 82 = true := by decide +kernel
set_option maxRecDepth 100000 in
theorem g_ok81 : g_k81.all (g_okI 81) = true := by decide +kernel
theorem g_om81 : g_okM 81 = true := by decide +kernel
set_option maxRecDepth 100000 in
theorem g_ok80 : g_k80.all (g_okI 80) = true := by decide +kernel
theorem g_om80 : g_okM 80 = true := by decide +kernel
end
section
set_option maxRecDepth 100000 in
theorem g_ok79 : g_k79.all (g_okI 79) = true := by decide +kernel
theorem g_om79 : g_okM 79 = true := by decide +kernel
set_option maxRecDepth 100000 in
theorem g_ok78 : g_k78.all (g_okI 78) = true := by decide +kernel
theorem g_om78 : g_okM 78 = true := by decide +kernel
set_option maxRecDepth 100000 in
theorem g_ok77 : g_k77.all (g_okI 77) = true := by decide +kernel
theorem g_om77 : g_okM 77 = true := by decide +kernel
set_option maxRecDepth 100000 in
theorem g_ok76 : g_k76.all (g_okI 76) = true := by decide +kernel
theorem g_om76 : g_okM 76 = true := by decide +kernel
set_option maxRecDepth 100000 in
theorem g_ok75 : g_k75.all (g_okI 75) = true := by decide +kernel
theorem g_om75 : g_okM 75 = true := by decide +kernel
set_option maxRecDepth 100000 in
theorem g_ok74 : g_k74.all (g_okI 74) = true := by decide +kernel
theorem g_om74 : g_okM 74 = true := by decide +kernel
set_option maxRecDepth 100000 in
theorem g_ok73 : g_k73.all (g_okI 73) = true := by decide +kernel
theorem g_om73 : g_okM 73 = true := by decide +kernel
set_option maxRecDepth 100000 in
theorem g_ok72 : g_k72.all (g_okI 72) = true := by decide +kernel
theorem g_om72 : g_okM 72 = true := by decide +kernel
set_option maxRecDepth 100000 in
theorem g_ok71_0 : (g_k71.take 60).all (g_okI 71) = true := by decide +kernel
set_option maxRecDepth 100000 in
theorem g_ok71_1 : (g_k71.drop 60).all (g_okI 71) = true := by decide +kernel
theorem g_ok71 : g_k71.all (g_okI 71) = true := (g_spl 60 g_ok71_0 (g_ok71_1))
theorem g_om71 : g_okM 71 = true := by decide +kernel
set_option maxRecDepth 100000 in
theorem g_ok70 : g_k70.all (g_okI 70) = true := by decide +kernel
theorem g_om70 : g_okM 70 = true := by decide +kernel
set_option maxRecDepth 100000 in
theorem g_ok69 : g_k69.all (g_okI 69) = true := by decide +kernel
theorem g_om69 : g_okM 69 = true := by decide +kernel
set_option maxRecDepth 100000 in
theorem g_ok68 : g_k68.all (g_okI 68) = true := by decide +kernel
theorem g_om68 : g_okM 68 = true := by decide +kernel
end
section
set_option maxRecDepth 100000 in
theorem g_ok67_0 : (g_k67.take 60).all (g_okI 67) = true := by decide +kernel
set_option maxRecDepth 100000 in
theorem g_ok67_1 : (g_k67.drop 60).all (g_okI 67) = true := by decide +kernel
theorem g_ok67 : g_k67.all (g_okI 67) = true := (g_spl 60 g_ok67_0 (g_ok67_1))
theorem g_om67 : g_okM 67 = true := by decide +kernel
set_option maxRecDepth 100000 in
theorem g_ok66 : g_k66.all (g_okI 66) = true := by decide +kernel
theorem g_om66 : g_okM 66 = true := by decide +kernel
set_option maxRecDepth 100000 in
theorem g_ok65 : g_k65.all (g_okI 65) = true := by decide +kernel
theorem g_om65 : g_okM 65 = true := by decide +kernel
set_option maxRecDepth 100000 in
theorem g_ok64_0 : (g_k64.take 60).all (g_okI 64) = true := by decide +kernel
set_option maxRecDepth 100000 in
theorem g_ok64_1 : (g_k64.drop 60).all (g_okI 64) = true := by decide +kernel
theorem g_ok64 : g_k64.all (g_okI 64) = true := (g_spl 60 g_ok64_0 (g_ok64_1))
theorem g_om64 : g_okM 64 = true := by decide +kernel
set_option maxRecDepth 100000 in
theorem g_ok63_0 : (g_k63.take 60).all (g_okI 63) = true := by decide +kernel
set_option maxRecDepth 100000 in
theorem g_ok63_1 : (g_k63.drop 60).all (g_okI 63) = true := by decide +kernel
theorem g_ok63 : g_k63.all (g_okI 63) = true := (g_spl 60 g_ok63_0 (g_ok63_1))
theorem g_om63 : g_okM 63 = true := by decide +kernel
set_option maxRecDepth 100000 in
theorem g_ok62_0 : (g_k62.take 60).all (g_okI 62) = true := by decide +kernel
set_option maxRecDepth 100000 in
theorem g_ok62_1 : (g_k62.drop 60).all (g_okI 62) = true := by decide +kernel
theorem g_ok62 : g_k62.all (g_okI 62) = true := (g_spl 60 g_ok62_0 (g_ok62_1))
theorem g_om62 : g_okM 62 = true := by decide +kernel
set_option maxRecDepth 100000 in
theorem g_ok61 : g_k61.all (g_okI 61) = true := by decide +kernel
theorem g_om61 : g_okM 61 = true := by decide +kernel
end
section
set_option maxRecDepth 100000 in
theorem g_ok60 : g_k60.all (g_okI 60) = true := by decide +kernel
theorem g_om60 : g_okM 60 = true := by decide +kernel
set_option maxRecDepth 100000 in
theorem g_ok59 : g_k59.all (g_okI 59) = true := by decide +kernel
theorem g_om59 : g_okM 59 = true := by decide +kernel
set_option maxRecDepth 100000 in
theorem g_ok58 : g_k58.all (g_okI 58) = true := by decide +kernel
theorem g_om58 : g_okM 58 = true := by decide +kernel
set_option maxRecDepth 100000 in
theorem g_ok57 : g_k57.all (g_okI 57) = true := by decide +kernel
theorem g_om57 : g_okM 57 = true := by decide +kernel
set_option maxRecDepth 100000 in
theorem g_ok56 : g_k56.all (g_okI 56) = true := by decide +kernel
theorem g_om56 : g_okM 56 = true := by decide +kernel
set_option maxRecDepth 100000 in
theorem g_ok55 : g_k55.all (g_okI 55) = true := by decide +kernel
theorem g_om55 : g_okM 55 = true := by decide +kernel
set_option maxRecDepth 100000 in
theorem g_ok54 : g_k54.all (g_okI 54) = true := by decide +kernel
theorem g_om54 : g_okM 54 = true := by decide +kernel
set_option maxRecDepth 100000 in
theorem g_ok53 : g_k53.all (g_okI 53) = true := by decide +kernel
theorem g_om53 : g_okM 53 = true := by decide +kernel
set_option maxRecDepth 100000 in
theorem g_ok52 : g_k52.all (g_okI 52) = true := by decide +kernel
theorem g_om52 : g_okM 52 = true := by decide +kernel
set_option maxRecDepth 100000 in
theorem g_ok51 : g_k51.all (g_okI 51) = true := by decide +kernel
theorem g_om51 : g_okM 51 = true := by decide +kernel
set_option maxRecDepth 100000 in
theorem g_ok50 : g_k50.all (g_okI 50) = true := by decide +kernel
theorem g_om50 : g_okM 50 = true := by decide +kernel
set_option maxRecDepth 100000 in
theorem g_ok49 : g_k49.all (g_okI 49) = true := by decide +kernel
theorem g_om49 : g_okM 49 = true := by decide +kernel
set_option maxRecDepth 100000 in
theorem g_ok48 : g_k48.all (g_okI 48) = true := by decide +kernel
theorem g_om48 : g_okM 48 = true := by decide +kernel
set_option maxRecDepth 100000 in
theorem g_ok47 : g_k47.all (g_okI 47) = true := by decide +kernel
theorem g_om47 : g_okM 47 = true := by decide +kernel
set_option maxRecDepth 100000 in
theorem g_ok46 : g_k46.all (g_okI 46) = true := by decide +kernel
theorem g_om46 : g_okM 46 = true := by decide +kernel
set_option maxRecDepth 100000 in
theorem g_ok45 : g_k45.all (g_okI 45) = true := by decide +kernel
theorem g_om45 : g_okM 45 = true := by decide +kernel
set_option maxRecDepth 100000 in
theorem g_ok44 : g_k44.all (g_okI 44) = true := by decide +kernel
theorem g_om44 : g_okM 44 = true := by decide +kernel
end
section
set_option maxRecDepth 100000 in
theorem g_ok43_0 : (g_k43.take 60).all (g_okI 43) = true := by decide +kernel
set_option maxRecDepth 100000 in
theorem g_ok43_1 : (g_k43.drop 60).all (g_okI 43) = true := by decide +kernel
theorem g_ok43 : g_k43.all (g_okI 43) = true := (g_spl 60 g_ok43_0 (g_ok43_1))
theorem g_om43 : g_okM 43 = true := by decide +kernel
set_option maxRecDepth 100000 in
theorem g_ok42 : g_k42.all (g_okI 42) = true := by decide +kernel
theorem g_om42 : g_okM 42 = true := by decide +kernel
set_option maxRecDepth 100000 in
theorem g_ok41 : g_k41.all (g_okI 41) = true := by decide +kernel
theorem g_om41 : g_okM 41 = true := by decide +kernel
set_option maxRecDepth 100000 in
theorem g_ok40 : g_k40.all (g_okI 40) = true := by decide +kernel
theorem g_om40 : g_okM 40 = true := by decide +kernel
set_option maxRecDepth 100000 in
theorem g_ok39 : g_k39.all (g_okI 39) = true := by decide +kernel
theorem g_om39 : g_okM 39 = true := by decide +kernel
set_option maxRecDepth 100000 in
theorem g_ok38 : g_k38.all (g_okI 38) = true := by decide +kernel
theorem g_om38 : g_okM 38 = true := by decide +kernel
set_option maxRecDepth 100000 in
theorem g_ok37 : g_k37.all (g_okI 37) = true := by decide +kernel
theorem g_om37 : g_okM 37 = true := by decide +kernel
set_option maxRecDepth 100000 in
theorem g_ok36 : g_k36.all (g_okI 36) = true := by decide +kernel
theorem g_om36 : g_okM 36 = true := by decide +kernel
set_option maxRecDepth 100000 in
theorem g_ok35 : g_k35.all (g_okI 35) = true := by decide +kernel
theorem g_om35 : g_okM 35 = true := by decide +kernel
set_option maxRecDepth 100000 in
theorem g_ok34 : g_k34.all (g_okI 34) = true := by decide +kernel
theorem g_om34 : g_okM 34 = true := by decide +kernel
set_option maxRecDepth 100000 in
theorem g_ok33 : g_k33.all (g_okI 33) = true := by decide +kernel
theorem g_om33 : g_okM 33 = true := by decide +kernel
set_option maxRecDepth 100000 in
theorem g_ok32 : g_k32.all (g_okI 32) = true := by decide +kernel
theorem g_om32 : g_okM 32 = true := by decide +kernel
end
section
set_option maxRecDepth 100000 in
theorem g_ok31 : g_k31.all (g_okI 31) = true := by decide +kernel
theorem g_om31 : g_okM 31 = true := by decide +kernel
set_option maxRecDepth 100000 in
theorem g_ok30 : g_k30.all (g_okI 30) = true := by decide +kernel
theorem g_om30 : g_okM 30 = true := by decide +kernel
set_option maxRecDepth 100000 in
theorem g_ok29 : g_k29.all (g_okI 29) = true := by decide +kernel
theorem g_om29 : g_okM 29 = true := by decide +kernel
set_option maxRecDepth 100000 in
theorem g_ok28 : g_k28.all (g_okI 28) = true := by decide +kernel
theorem g_om28 : g_okM 28 = true := by decide +kernel
set_option maxRecDepth 100000 in
theorem g_ok27 : g_k27.all (g_okI 27) = true := by decide +kernel
theorem g_om27 : g_okM 27 = true := by decide +kernel
set_option maxRecDepth 100000 in
theorem g_ok26 : g_k26.all (g_okI 26) = true := by decide +kernel
theorem g_om26 : g_okM 26 = true := by decide +kernel
set_option maxRecDepth 100000 in
theorem g_ok25 : g_k25.all (g_okI 25) = true := by decide +kernel
theorem g_om25 : g_okM 25 = true := by decide +kernel
set_option maxRecDepth 100000 in
theorem g_ok24 : g_k24.all (g_okI 24) = true := by decide +kernel
theorem g_om24 : g_okM 24 = true := by decide +kernel
set_option maxRecDepth 100000 in
theorem g_ok23_0 : (g_k23.take 60).all (g_okI 23) = true := by decide +kernel
set_option maxRecDepth 100000 in
theorem g_ok23_1 : (g_k23.drop 60).all (g_okI 23) = true := by decide +kernel
theorem g_ok23 : g_k23.all (g_okI 23) = true := (g_spl 60 g_ok23_0 (g_ok23_1))
theorem g_om23 : g_okM 23 = true := by decide +kernel
set_option maxRecDepth 100000 in
theorem g_ok22 : g_k22.all (g_okI 22) = true := by decide +kernel
theorem g_om22 : g_okM 22 = true := by decide +kernel
set_option maxRecDepth 100000 in
theorem g_ok21 : g_k21.all (g_okI 21) = true := by decide +kernel
theorem g_om21 : g_okM 21 = true := by decide +kernel
set_option maxRecDepth 100000 in
theorem g_ok20 : g_k20.all (g_okI 20) = true := by decide +kernel
theorem g_om20 : g_okM 20 = true := by decide +kernel
set_option maxRecDepth 100000 in
theorem g_ok19 : g_k19.all (g_okI 19) = true := by decide +kernel
theorem g_om19 : g_okM 19 = true := by decide +kernel
set_option maxRecDepth 100000 in
theorem g_ok18 : g_k18.all (g_okI 18) = true := by decide +kernel
theorem g_om18 : g_okM 18 = true := by decide +kernel
end
section
set_option maxRecDepth 100000 in
theorem g_ok17 : g_k17.all (g_okI 17) = true := by decide +kernel
theorem g_om17 : g_okM 17 = true := by decide +kernel
set_option maxRecDepth 100000 in
theorem g_ok16 : g_k16.all (g_okI 16) = true := by decide +kernel
theorem g_om16 : g_okM 16 = true := by decide +kernel
set_option maxRecDepth 100000 in
theorem g_ok15 : g_k15.all (g_okI 15) = true := by decide +kernel
theorem g_om15 : g_okM 15 = true := by decide +kernel
set_option maxRecDepth 100000 in
theorem g_ok14 : g_k14.all (g_okI 14) = true := by decide +kernel
theorem g_om14 : g_okM 14 = true := by decide +kernel
set_option maxRecDepth 100000 in
theorem g_ok13 : g_k13.all (g_okI 13) = true := by decide +kernel
theorem g_om13 : g_okM 13 = true := by decide +kernel
set_option maxRecDepth 100000 in
theorem g_ok12 : g_k12.all (g_okI 12) = true := by decide +kernel
theorem g_om12 : g_okM 12 = true := by decide +kernel
set_option maxRecDepth 100000 in
theorem g_ok11 : g_k11.all (g_okI 11) = true := by decide +kernel
theorem g_om11 : g_okM 11 = true := by decide +kernel
set_option maxRecDepth 100000 in
theorem g_ok10 : g_k10.all (g_okI 10) = true := by decide +kernel
theorem g_om10 : g_okM 10 = true := by decide +kernel
end
section
set_option maxRecDepth 100000 in
theorem g_ok9 : g_k9.all (g_okI 9) = true := by decide +kernel
theorem g_om9 : g_okM 9 = true := by decide +kernel
set_option maxRecDepth 100000 in
theorem g_ok8 : g_k8.all (g_okI 8) = true := by decide +kernel
theorem g_om8 : g_okM 8 = true := by decide +kernel
set_option maxRecDepth 100000 in
theorem g_ok7 : g_k7.all (g_okI 7) = true := by decide +kernel
theorem g_om7 : g_okM 7 = true := by decide +kernel
set_option maxRecDepth 100000 in
theorem g_ok6 : g_k6.all (g_okI 6) = true := by decide +kernel
theorem g_om6 : g_okM 6 = true := by decide +kernel
set_option maxRecDepth 100000 in
theorem g_ok5_0 : (g_k5.take 60).all (g_okI 5) = true := by decide +kernel
set_option maxRecDepth 100000 in
theorem g_ok5_1 : (g_k5.drop 60).all (g_okI 5) = true := by decide +kernel
theorem g_ok5 : g_k5.all (g_okI 5) = true := (g_spl 60 g_ok5_0 (g_ok5_1))
theorem g_om5 : g_okM 5 = true := by decide +kernel
set_option maxRecDepth 100000 in
theorem g_ok4 : g_k4.all (g_okI 4) = true := by decide +kernel
theorem g_om4 : g_okM 4 = true := by decide +kernel
set_option maxRecDepth 100000 in
theorem g_ok3_0 : (g_k3.take 60).all (g_okI 3) = true := by decide +kernel
set_option maxRecDepth 100000 in
theorem g_ok3_1 : (g_k3.drop 60).all (g_okI 3) = true := by decide +kernel
theorem g_ok3 : g_k3.all (g_okI 3) = true := (g_spl 60 g_ok3_0 (g_ok3_1))
theorem g_om3 : g_okM 3 = true := by decide +kernel
set_option maxRecDepth 100000 in
theorem g_ok2 : g_k2.all (g_okI 2) = true := by decide +kernel
theorem g_om2 : g_okM 2 = true := by decide +kernel
set_option maxRecDepth 100000 in
theorem g_ok1 : g_k1.all (g_okI 1) = true := by decide +kernel
theorem g_om1 : g_okM 1 = true := by decide +kernel
end
section
set_option maxRecDepth 100000 in
theorem g_ok0_0 : (g_k0.take 40).all (g_okI 0) = true := by decide +kernel
set_option maxRecDepth 100000 in
theorem g_ok0_1 : ((g_k0.drop 40).take 40).all (g_okI 0) = true := by decide +kernel
set_option maxRecDepth 100000 in
theorem g_ok0_2 : ((g_k0.drop 80).take 40).all (g_okI 0) = true := by decide +kernel
set_option maxRecDepth 100000 in
theorem g_ok0_3 : ((g_k0.drop 120).take 40).all (g_okI 0) = true := by decide +kernel
set_option maxRecDepth 100000 in
theorem g_ok0_4 : ((g_k0.drop 160).take 40).all (g_okI 0) = true := by decide +kernel
set_option maxRecDepth 100000 in
theorem g_ok0_5 : ((g_k0.drop 200).take 40).all (g_okI 0) = true := by decide +kernel
end
section
set_option maxRecDepth 100000 in
theorem g_ok0_6 : ((g_k0.drop 240).take 40).all (g_okI 0) = true := by decide +kernel
set_option maxRecDepth 100000 in
theorem g_ok0_7 : ((g_k0.drop 280).take 40).all (g_okI 0) = true := by decide +kernel
set_option maxRecDepth 100000 in
theorem g_ok0_8 : ((g_k0.drop 320).take 40).all (g_okI 0) = true := by decide +kernel
set_option maxRecDepth 100000 in
theorem g_ok0_9 : ((g_k0.drop 360).take 40).all (g_okI 0) = true := by decide +kernel
set_option maxRecDepth 100000 in
theorem g_ok0_10 : ((g_k0.drop 400).take 40).all (g_okI 0) = true := by decide +kernel
set_option maxRecDepth 100000 in
theorem g_ok0_11 : ((g_k0.drop 440).take 40).all (g_okI 0) = true := by decide +kernel
end
section
set_option maxRecDepth 100000 in
theorem g_ok0_12 : ((g_k0.drop 480).take 40).all (g_okI 0) = true := by decide +kernel
set_option maxRecDepth 100000 in
theorem g_ok0_13 : ((g_k0.drop 520).take 40).all (g_okI 0) = true := by decide +kernel
set_option maxRecDepth 100000 in
theorem g_ok0_14 : ((g_k0.drop 560).take 40).all (g_okI 0) = true := by decide +kernel
set_option maxRecDepth 100000 in
theorem g_ok0_15 : ((g_k0.drop 600).take 40).all (g_okI 0) = true := by decide +kernel
set_option maxRecDepth 100000 in
theorem g_ok0_16 : ((g_k0.drop 640).take 40).all (g_okI 0) = true := by decide +kernel
set_option maxRecDepth 100000 in
theorem g_ok0_17 : ((g_k0.drop 680).take 40).all (g_okI 0) = true := by decide +kernel
end
section
set_option maxRecDepth 100000 in
theorem g_ok0_18 : ((g_k0.drop 720).take 40).all (g_okI 0) = true := by decide +kernel
set_option maxRecDepth 100000 in
theorem g_ok0_19 : ((g_k0.drop 760).take 40).all (g_okI 0) = true := by decide +kernel
set_option maxRecDepth 100000 in
theorem g_ok0_20 : (g_k0.drop 800).all (g_okI 0) = true := by decide +kernel
theorem g_ok0 : g_k0.all (g_okI 0) = true := (g_spl 40 g_ok0_0 ((g_spl2 40 40 g_ok0_1 ((g_spl2 80 40 g_ok0_2 ((g_spl2 120 40 g_ok0_3 ((g_spl2 160 40 g_ok0_4 ((g_spl2 200 40 g_ok0_5 ((g_spl2 240 40 g_ok0_6 ((g_spl2 280 40 g_ok0_7 ((g_spl2 320 40 g_ok0_8 ((g_spl2 360 40 g_ok0_9 ((g_spl2 400 40 g_ok0_10 ((g_spl2 440 40 g_ok0_11 ((g_spl2 480 40 g_ok0_12 ((g_spl2 520 40 g_ok0_13 ((g_spl2 560 40 g_ok0_14 ((g_spl2 600 40 g_ok0_15 ((g_spl2 640 40 g_ok0_16 ((g_spl2 680 40 g_ok0_17 ((g_spl2 720 40 g_ok0_18 ((g_spl2 760 40 g_ok0_19 (g_ok0_20))))))))))))))))))))))))))))))))))))))))
end
section
/-! A small machine over one fixed graph of objects: numbers of objects stand for addresses; its steps are the kit's rows, said purely -/
abbrev g_S : Type := Nat → Nat → Int32
abbrev g_L : Type := List (Option Value)
abbrev g_R : Type := Option Value → g_S → Prop
abbrev g_K : Type := Nat → g_L → List Value → g_S → Prop
abbrev g_O : Type := Nat → List Value → g_S → g_R → Prop
def g_up (σ : g_S) (a j : Nat) (v : Int32) : g_S := fun b k => if b = a ∧ k = j then v else σ b k
def g_cp (σ : g_S) (s d sp dp n : Nat) : g_S := fun b k => if b = d ∧ dp ≤ k ∧ k < dp + n then σ s (sp + (k - dp)) else σ b k
def g_nth : g_L → Nat → Option Value
  | [], _ => none
  | v :: _, 0 => v
  | _ :: l, k + 1 => g_nth l k
def g_set : g_L → Nat → Option Value → g_L
  | [], _, _ => []
  | _ :: l, 0, w => w :: l
  | v :: l, k + 1, w => v :: g_set l k w
def g_er (L : g_L) (k : Nat) : g_L := match k with
  | 0 => L
  | j + 1 => match g_nth L j with
    | some v => bif Nat.beq v.category 2 then g_set L j none else L
    | none => L
def g_st1 (L : g_L) (k : Nat) (v : Value) : g_L := g_set (g_er L k) k (some v)
def g_st2 (L : g_L) (k : Nat) (v : Value) : g_L := g_set (g_set (g_er L k) k (some v)) (k + 1) none
def g_le : g_L → g_L → Prop
  | [], [] => True
  | none :: a, _ :: b => g_le a b
  | some v :: a, w :: b => w = some v ∧ g_le a b
  | _, _ => False
def g_pop : Nat → List Value → List Value → Option (List Value × List Value)
  | 0, acc, st => some (acc, st)
  | n + 1, acc, v :: st => g_pop n (v :: acc) st
  | _ + 1, _, [] => none
def g_slots : List Value → g_L
  | [] => []
  | v :: r => bif Nat.beq v.category 2 then some v :: none :: g_slots r else some v :: g_slots r
def g_ent (ml : Nat) (as : List Value) : g_L := g_slots as ++ List.replicate (ml - (g_slots as).length) none
def g_sw (P : Nat → Prop) (v : Int32) : Nat → List Nat → Prop
  | _, [] => True
  | c, t :: ts => (v = Int32.ofNat c → P t) ∧ g_sw P v (c + 1) ts
/-- which object may be asked: of the method's kind -/
def g_rcv (ci : Nat) (v : Value) : Prop := match v with
  | .ref a => g_kd a = ci
  | .retAddr q => ci = 9 ∧ 20 ≤ q ∧ q < 28
  | _ => False
def g_ild (K : g_K) (pc n k : Nat) (L : g_L) (st : List Value) (σ : g_S) : Prop := match g_nth L k with
  | some (.int v) => K (pc + n) L (.int v :: st) σ
  | _ => False
def g_lld (K : g_K) (pc n k : Nat) (L : g_L) (st : List Value) (σ : g_S) : Prop := match g_nth L k with
  | some (.long v) => K (pc + n) L (.long v :: st) σ
  | _ => False
def g_ald (K : g_K) (pc n k : Nat) (L : g_L) (st : List Value) (σ : g_S) : Prop := match g_nth L k with
  | some (.ref v) => K (pc + n) L (.ref v :: st) σ
  | some (.retAddr v) => K (pc + n) L (.retAddr v :: st) σ
  | _ => False
def g_ist (K : g_K) (pc n k : Nat) (L : g_L) (st : List Value) (σ : g_S) : Prop := match st with
  | .int v :: r => K (pc + n) (g_st1 L k (.int v)) r σ
  | _ => False
def g_lst (K : g_K) (pc n k : Nat) (L : g_L) (st : List Value) (σ : g_S) : Prop := match st with
  | .long v :: r => K (pc + n) (g_st2 L k (.long v)) r σ
  | _ => False
def g_ast (K : g_K) (pc n k : Nat) (L : g_L) (st : List Value) (σ : g_S) : Prop := match st with
  | .ref v :: r => K (pc + n) (g_st1 L k (.ref v)) r σ
  | _ => False
def g_i2 (K : g_K) (pc : Nat) (L : g_L) (st : List Value) (σ : g_S) (f : Int32 → Int32 → Int32) : Prop := match st with
  | .int y :: .int x :: r => K (pc + 1) L (.int (f x y) :: r) σ
  | _ => False
def g_l2 (K : g_K) (pc : Nat) (L : g_L) (st : List Value) (σ : g_S) (f : Int64 → Int64 → Int64) : Prop := match st with
  | .long y :: .long x :: r => K (pc + 1) L (.long (f x y) :: r) σ
  | _ => False
def g_ls (K : g_K) (pc : Nat) (L : g_L) (st : List Value) (σ : g_S) (f : Int64 → Int32 → Int64) : Prop := match st with
  | .int y :: .long x :: r => K (pc + 1) L (.long (f x y) :: r) σ
  | _ => False
def g_i1 (K : g_K) (pc : Nat) (L : g_L) (st : List Value) (σ : g_S) (f : Int32 → Int32) : Prop := match st with
  | .int x :: r => K (pc + 1) L (.int (f x) :: r) σ
  | _ => False
def g_call (O : g_O) (K : g_K) (pc n M ml : Nat) (L : g_L) (σ : g_S) (as r : List Value) : Prop :=
  Nat.ble r.length 4 = true ∧ Nat.ble (g_slots as).length ml = true ∧ ∃ q : g_R, O M as σ q ∧ ∀ rv σ1, q rv σ1 → K (pc + n) L (rv.toList ++ r) σ1
def g_acp (K : g_K) (pc n : Nat) (L : g_L) (st : List Value) (σ : g_S) : Prop := match st with
  | .int k :: .int dp :: .ref d :: .int sp :: .ref s :: r => Nat.ble r.length 4 = true ∧ g_kd s = 100 ∧ g_kd d = 100 ∧ ¬ sp < 0 ∧ ¬ dp < 0 ∧ ¬ k < 0 ∧ sp.toNatClampNeg + k.toNatClampNeg ≤ g_ln s ∧ dp.toNatClampNeg + k.toNatClampNeg ≤ g_ln d ∧ K (pc + n) L r (g_cp σ s d sp.toNatClampNeg dp.toNatClampNeg k.toNatClampNeg)
  | _ => False
def g_step (E : g_E) (O : g_O) (mc : Nat → Nat × Nat) (K : g_K) (R : g_R) (i : Instr) (n : Nat) (x : g_X) (pc : Nat) (L : g_L) (st : List Value) (σ : g_S) : Prop :=
  match i with
  | .iconst _ => K (pc + n) L (.int x.2.2.1 :: st) σ
  | .bipush _ => K (pc + n) L (.int x.2.2.1 :: st) σ
  | .sipush _ => K (pc + n) L (.int x.2.2.1 :: st) σ
  | .ldc _ => match x.2.1 with
    | 0 => K (pc + n) L (.int x.2.2.1 :: st) σ
    | _ => K (pc + n) L (.retAddr x.1 :: st) σ
  | .ldc_w _ => K (pc + n) L (.int x.2.2.1 :: st) σ
  | .lconst _ => K (pc + n) L (.long x.2.2.2.1 :: st) σ
  | .ldc2_w _ => K (pc + n) L (.long x.2.2.2.1 :: st) σ
  | .iload k => g_ild K pc n k L st σ
  | .iload_n k => g_ild K pc n k.val L st σ
  | .lload k => g_lld K pc n k L st σ
  | .lload_n k => g_lld K pc n k.val L st σ
  | .aload k => g_ald K pc n k L st σ
  | .aload_n k => g_ald K pc n k.val L st σ
  | .istore k => g_ist K pc n k L st σ
  | .istore_n k => g_ist K pc n k.val L st σ
  | .lstore k => g_lst K pc n k L st σ
  | .lstore_n k => g_lst K pc n k.val L st σ
  | .astore k => g_ast K pc n k L st σ
  | .astore_n k => g_ast K pc n k.val L st σ
  | .iinc k _ => match g_nth L k with
    | some (.int v) => K (pc + n) (g_st1 L k (.int (v + x.2.2.1))) st σ
    | _ => False
  | .iadd => g_i2 K pc L st σ (fun a b => a + b)
  | .isub => g_i2 K pc L st σ (fun a b => a - b)
  | .imul => g_i2 K pc L st σ (fun a b => a * b)
  | .iand => g_i2 K pc L st σ (fun a b => a &&& b)
  | .ior => g_i2 K pc L st σ (fun a b => a ||| b)
  | .ixor => g_i2 K pc L st σ (fun a b => a ^^^ b)
  | .ishl => g_i2 K pc L st σ (fun a b => a <<< (b &&& 31))
  | .ishr => g_i2 K pc L st σ (fun a b => a >>> (b &&& 31))
  | .idiv => match st with
    | .int b :: .int a :: r => ¬ b = 0 ∧ K (pc + 1) L (.int (a / b) :: r) σ
    | _ => False
  | .irem => match st with
    | .int b :: .int a :: r => ¬ b = 0 ∧ K (pc + 1) L (.int (a - a / b * b) :: r) σ
    | _ => False
  | .ineg => g_i1 K pc L st σ (fun a => -a)
  | .i2b => g_i1 K pc L st σ (fun a => a.toInt8.toInt32)
  | .i2s => g_i1 K pc L st σ (fun a => a.toInt16.toInt32)
  | .i2c => g_i1 K pc L st σ (fun a => (a.toUInt32 % 65536).toInt32)
  | .i2l => match st with
    | .int a :: r => K (pc + 1) L (.long a.toInt64 :: r) σ
    | _ => False
  | .l2i => match st with
    | .long a :: r => K (pc + 1) L (.int a.toInt32 :: r) σ
    | _ => False
  | .ladd => g_l2 K pc L st σ (fun a b => a + b)
  | .lmul => g_l2 K pc L st σ (fun a b => a * b)
  | .land => g_l2 K pc L st σ (fun a b => a &&& b)
  | .lor => g_l2 K pc L st σ (fun a b => a ||| b)
  | .lrem => match st with
    | .long b :: .long a :: r => ¬ b = 0 ∧ K (pc + 1) L (.long (a - a / b * b) :: r) σ
    | _ => False
  | .lshl => g_ls K pc L st σ (fun a b => a <<< (b.toInt64 &&& 63))
  | .lshr => g_ls K pc L st σ (fun a b => a >>> (b.toInt64 &&& 63))
  | .lushr => g_ls K pc L st σ (fun a b => (a.toUInt64 >>> (b.toInt64.toUInt64 &&& Int64.toUInt64 63)).toInt64)
  | .lcmp => match st with
    | .long b :: .long a :: r => K (pc + 1) L (.int (lg_cmp a b) :: r) σ
    | _ => False
  | .dup => match st with
    | v :: r => v.category = 1 ∧ K (pc + 1) L (v :: v :: r) σ
    | _ => False
  | .dup2 => match st with
    | v :: w :: r => v.category = 1 ∧ w.category = 1 ∧ K (pc + 1) L (v :: w :: v :: w :: r) σ
    | _ => False
  | .pop => match st with
    | v :: r => v.category = 1 ∧ K (pc + 1) L r σ
    | _ => False
  | .ifCond c _ => match st with
    | .int a :: r => (g_c c a 0 → K x.1 L r σ) ∧ (¬ g_c c a 0 → K (pc + 3) L r σ)
    | _ => False
  | .if_icmp c _ => match st with
    | .int b :: .int a :: r => (g_c c a b → K x.1 L r σ) ∧ (¬ g_c c a b → K (pc + 3) L r σ)
    | _ => False
  | .goto _ => K x.1 L st σ
  | .tableswitch _ lo hi _ => match st with
    | .int v :: r => ((v.toInt < lo ∨ hi < v.toInt) → K x.1 L r σ) ∧ g_sw (fun t => K t L r σ) v x.2.1 x.2.2.2.2
    | _ => False
  | .getstatic _ => match x.2.2.2.2 with
    | [] => K (pc + 3) L (.retAddr x.1 :: st) σ
    | _ => K (pc + 3) L (.int x.2.2.1 :: st) σ
  | .getfield _ => match st with
    | .ref a :: r => g_kd a = x.1 ∧ K (pc + 3) L ((bif g_rf x.1 x.2.1 then .ref (g_tg x.1 x.2.1 a) else .int (σ a x.2.1)) :: r) σ
    | .retAddr q :: r => x.1 = 9 ∧ 20 ≤ q ∧ q < 28 ∧ K (pc + 3) L ((match x.2.1 with | 0 => .retAddr (q - 10) | _ => .int 0) :: r) σ
    | _ => False
  | .putfield _ => match st with
    | .int v :: .ref a :: r => g_kd a = x.1 ∧ narrow (bif g_bz x.1 x.2.1 then .boolean else .int) (.int v) = .int v ∧ K (pc + 3) L r (g_up σ a x.2.1 v)
    | _ => False
  | .iaload => match st with
    | .int j :: .ref a :: r => ∃ m, g_kd a = 100 ∧ g_ln a = m ∧ vp_in j m ∧ K (pc + 1) L (.int (σ a j.toNatClampNeg) :: r) σ
    | .int j :: .retAddr q :: r => (q < 6 ∨ q = 99) ∧ vp_in j (g_rn E q) ∧ K (pc + 1) L (.int (g_ro E q j.toNatClampNeg) :: r) σ
    | _ => False
  | .baload => match st with
    | .int j :: .ref a :: r => ∃ m, g_kd a = 101 ∧ g_ln a = m ∧ vp_in j m ∧ K (pc + 1) L (.int (σ a j.toNatClampNeg) :: r) σ
    | .int j :: .retAddr q :: r => 10 ≤ q ∧ q < 18 ∧ vp_in j (g_rn E q) ∧ K (pc + 1) L (.int (g_ro E q j.toNatClampNeg) :: r) σ
    | _ => False
  | .aaload => match st with
    | .int j :: .ref a :: r => ∃ m, (g_kd a = 102 ∨ g_kd a = 103) ∧ g_ln a = m ∧ vp_in j m ∧ K (pc + 1) L (.ref (g_ta a j.toNatClampNeg) :: r) σ
    | _ => False
  | .arraylength => match st with
    | .ref a :: r => ∃ m, 100 ≤ g_kd a ∧ g_kd a < 102 ∧ g_ln a = m ∧ K (pc + 1) L (.int (Int32.ofNat m) :: r) σ
    | .retAddr q :: r => (q < 6 ∨ (10 ≤ q ∧ q < 18) ∨ q = 99) ∧ K (pc + 1) L (.int (Int32.ofNat (g_rn E q)) :: r) σ
    | _ => False
  | .iastore => match st with
    | .int v :: .int j :: .ref a :: r => ∃ m, g_kd a = 100 ∧ g_ln a = m ∧ vp_in j m ∧ K (pc + 1) L r (g_up σ a j.toNatClampNeg v)
    | _ => False
  | .bastore => match st with
    | .int v :: .int j :: .ref a :: r => ∃ m, g_kd a = 101 ∧ g_ln a = m ∧ vp_in j m ∧ narrow .boolean (.int v) = .int v ∧ K (pc + 1) L r (g_up σ a j.toNatClampNeg v)
    | _ => False
  | .invokevirtual _ => match g_pop (x.2.1 + 1) [] st with
    | some (v :: as, r) => g_rcv (mc x.1).1 v ∧ g_call O K pc n x.1 (mc x.1).2 L σ (v :: as) r
    | _ => False
  | .invokestatic _ => match x.2.2.2.2 with
    | [] => match g_pop x.2.1 [] st with
      | some (as, r) => g_call O K pc n x.1 (mc x.1).2 L σ as r
      | _ => False
    | f :: _ => match f with
      | 1 => g_acp K pc n L st σ
      | 2 => match st with
        | .int b :: .int a :: r => Nat.ble r.length 4 = true ∧ K (pc + n) L (.int (if a < b then b else a) :: r) σ
        | _ => False
      | 3 => match st with
        | .int b :: .int a :: r => Nat.ble r.length 4 = true ∧ K (pc + n) L (.int (if b < a then b else a) :: r) σ
        | _ => False
      | _ => match st with
        | .int a :: r => Nat.ble r.length 4 = true ∧ K (pc + n) L (.int (if 0 ≤ a then a else 0 - a) :: r) σ
        | _ => False
  | .ireturn => match st with
    | [.int v] => narrow (g_ty x.1) (.int v) = .int v ∧ R (some (.int v)) σ
    | _ => False
  | .lreturn => match st with
    | [.long v] => R (some (.long v)) σ
    | _ => False
  | .return_ => match st with
    | [] => R none σ
    | _ => False
  | _ => False
/-- from a state on, whatever is shut under steps: the least such -/
def g_G (E : g_E) (cd : Nat → Option g_I) (O : g_O) (mc : Nat → Nat × Nat) (pc : Nat) (L : g_L) (st : List Value) (σ : g_S) (R : g_R) : Prop :=
  ∀ P : g_K, (∀ (Q : g_K) (pc : Nat) (L : g_L) (st : List Value) (σ : g_S) (i : Instr) (n : Nat) (x : g_X), (∀ pc L st σ, Q pc L st σ → P pc L st σ) → cd pc = some (i, n, x) → g_step E O mc Q R i n x pc L st σ → P pc L st σ) →
    (∀ (pc : Nat) (L0 L : g_L) (st : List Value) (σ : g_S), P pc L0 st σ → g_le L0 L → P pc L st σ) → P pc L st σ
theorem g_at' {E : g_E} {cd : Nat → Option g_I} {O : g_O} {mc : Nat → Nat × Nat} {pc : Nat} {L : g_L} {st : List Value} {σ : g_S} {R : g_R} {i : Instr} {n : Nat} {x : g_X} (h : cd pc = some (i, n, x)) (k : g_step E O mc (fun pc L st σ => g_G E cd O mc pc L st σ R) R i n x pc L st σ) : g_G E cd O mc pc L st σ R :=
  fun P h1 h2 => h1 _ _ _ _ _ _ _ _ (fun _ _ _ _ q => q P h1 h2) h k
theorem g_wk' {E : g_E} {cd : Nat → Option g_I} {O : g_O} {mc : Nat → Nat × Nat} {pc : Nat} {L0 L : g_L} {st : List Value} {σ : g_S} {R : g_R} (k : g_G E cd O mc pc L0 st σ R) (h : g_le L0 L) : g_G E cd O mc pc L st σ R :=
  fun P h1 h2 => h2 _ _ _ _ _ (k P h1 h2) h
abbrev g_g (E : g_E) (O : g_O) (M : Nat) (pc : Nat) (L : g_L) (st : List Value) (σ : g_S) (R : g_R) : Prop := g_G E (g_cd M) O g_mm pc L st σ R
/-- a call of method M, at most d calls deep -/
def g_wp (E : g_E) : Nat → g_O
  | 0 => fun _ _ _ _ => False
  | d + 1 => fun M as σ R => g_g E (g_wp E d) M 0 (g_ent (g_ml M) as) [] σ R
theorem g_at {E : g_E} {O : g_O} {M pc : Nat} {L : g_L} {st : List Value} {σ : g_S} {R : g_R} {l : List (Nat × g_I)} {i : Instr} {n : Nat} {x : g_X} (hl : g_cl M = l) (h : g_lk l pc = some (i, n, x)) (k : g_step E O g_mm (fun pc L st σ => g_g E O M pc L st σ R) R i n x pc L st σ) : g_g E O M pc L st σ R :=
  g_at' (show g_lk (g_cl M) pc = _ by rw [hl]; exact h) k
end
section
/-! what the small machine's states are at the machine: values, locals, the world, what is only read -/
section GW
variable {ad : Nat → Nat} {rv : Nat → Value}
def g_cv (ad : Nat → Nat) (rv : Nat → Value) (v : Value) : Value := match v with
  | .ref a => .ref (ad a)
  | .retAddr q => rv q
  | v => v
theorem g_cat (hrv : ∀ q, (rv q).category = 1) (v : Value) : (g_cv ad rv v).category = v.category := by
  cases v with
  | retAddr q => exact hrv q
  | _ => rfl
theorem g_slots_2 {v : Value} {r : List Value} (h : v.category = 2) : g_slots (v :: r) = some v :: none :: g_slots r := by
  show (bif Nat.beq v.category 2 then some v :: none :: g_slots r else some v :: g_slots r) = _
  rw [h]; rfl
theorem g_slots_1 {v : Value} {r : List Value} (h : ¬ v.category = 2) : g_slots (v :: r) = some v :: g_slots r := by
  show (bif Nat.beq v.category 2 then some v :: none :: g_slots r else some v :: g_slots r) = _
  cases hb : Nat.beq v.category 2 with
  | true => exact absurd (Nat.eq_of_beq_eq_true hb) h
  | false => rfl
theorem g_nth_ne {L : g_L} {k j : Nat} {w : Option Value} (h : j ≠ k) : g_nth (g_set L k w) j = g_nth L j := by
  induction L generalizing k j with
  | nil => rfl
  | cons a L ih =>
    cases k with
    | zero => cases j with
      | zero => exact absurd rfl h
      | succ j => rfl
    | succ k => cases j with
      | zero => rfl
      | succ j => exact ih (fun q => h (congrArg Nat.succ q))
theorem g_nth_eq {L : g_L} {k : Nat} {w : Option Value} {v : Value} (h : g_nth (g_set L k w) k = some v) : w = some v := by
  induction L generalizing k with
  | nil => cases h
  | cons a L ih => cases k with
    | zero => exact h
    | succ k => exact ih h
theorem g_nth_er {L : g_L} {k j : Nat} {v : Value} (h : g_nth (g_er L k) j = some v) : g_nth L j = some v ∧ ¬ (j + 1 = k ∧ v.category = 2) := by
  cases k with
  | zero => exact ⟨h, fun q => by omega⟩
  | succ k =>
    unfold g_er at h
    dsimp only at h
    cases hk : g_nth L k with
    | none =>
      rw [hk] at h
      refine ⟨h, fun q => ?_⟩
      have : j = k := by omega
      subst this
      rw [hk] at h
      cases h
    | some u =>
      rw [hk] at h
      dsimp only at h
      cases hc : Nat.beq u.category 2 with
      | true =>
        rw [hc] at h
        change g_nth (g_set L k none) j = some v at h
        by_cases hj : j = k
        · subst hj
          cases g_nth_eq h
        · rw [g_nth_ne hj] at h
          exact ⟨h, fun q => hj (by omega)⟩
      | false =>
        rw [hc] at h
        change g_nth L j = some v at h
        refine ⟨h, fun q => ?_⟩
        have : j = k := by omega
        subst this
        rw [hk] at h
        cases h
        rw [q.2] at hc
        exact absurd hc (by decide)
theorem g_nth_lt {L : g_L} {k : Nat} {v : Value} (h : g_nth L k = some v) : k < L.length := by
  induction L generalizing k with
  | nil => cases h
  | cons a L ih => cases k with
    | zero => exact Nat.succ_pos _
    | succ k => exact Nat.succ_lt_succ (ih h)
/-- the locals, as the machine has them -/
def g_H (ad : Nat → Nat) (rv : Nat → Value) (ls : Array Slot) (n : Nat) (L : g_L) : Prop := ls.size = n ∧ lv_wf ls ∧ ∀ (k : Nat) (v : Value), g_nth L k = some v → ls[k]? = some (.val (g_cv ad rv v))
def g_en (ad : Nat → Nat) (rv : Nat → Value) (L : g_L) : List (Nat × Value) := (List.range L.length).filterMap (fun k => (g_nth L k).map (fun v => (k, g_cv ad rv v)))
theorem g_en_mem {L : g_L} {q : Nat × Value} : q ∈ g_en ad rv L ↔ ∃ v, g_nth L q.1 = some v ∧ q.2 = g_cv ad rv v := by
  unfold g_en
  rw [List.mem_filterMap]
  constructor
  · rintro ⟨k, -, h⟩
    rw [Option.map_eq_some_iff] at h
    obtain ⟨v, h1, rfl⟩ := h
    exact ⟨v, h1, rfl⟩
  · rintro ⟨v, h1, h2⟩
    refine ⟨q.1, List.mem_range.mpr (g_nth_lt h1), ?_⟩
    rw [h1, Option.map_some, ← h2]
theorem g_H.has {ls : Array Slot} {n : Nat} {L : g_L} (h : g_H ad rv ls n L) : lv_has ls n (g_en ad rv L) := by
  refine ⟨h.1, h.2.1, fun q hq => ?_⟩
  obtain ⟨v, h1, h2⟩ := g_en_mem.mp hq
  rw [h2]
  exact h.2.2 _ _ h1
theorem g_H.one {ls : Array Slot} {n k : Nat} {L : g_L} {v : Value} (h : g_H ad rv ls n L) (hk : g_nth L k = some v) : ls[k]? = some (.val (g_cv ad rv v)) := h.2.2 _ _ hk
theorem g_H.st1 (hrv : ∀ q, (rv q).category = 1) {ls : Array Slot} {n k : Nat} {L : g_L} {v w : Value} (hw : g_cv ad rv v = w) (h : lv_has ls n ((k, w) :: (g_en ad rv L).filter (fun q => !(q.1 == k) && !(q.1 + 1 == k && q.2.category == 2)))) : g_H ad rv ls n (g_st1 L k v) := by
  subst hw
  refine ⟨h.1, h.2.1, fun j u hj => ?_⟩
  unfold g_st1 at hj
  by_cases hjk : j = k
  · subst hjk
    have := Option.some.inj (g_nth_eq hj)
    subst this
    exact h.2.2 (j, _) List.mem_cons_self
  · rw [g_nth_ne hjk] at hj
    obtain ⟨h1, h2⟩ := g_nth_er hj
    refine h.2.2 (j, g_cv ad rv u) (List.mem_cons_of_mem _ (List.mem_filter.mpr ⟨g_en_mem.mpr ⟨u, h1, rfl⟩, ?_⟩))
    have h3 : ¬ (j + 1 = k ∧ (g_cv ad rv u).category = 2) := by rw [g_cat hrv]; exact h2
    simp only [Bool.and_eq_true, Bool.not_eq_true', beq_eq_false_iff_ne, ne_eq, Bool.and_eq_false_iff]
    refine ⟨hjk, ?_⟩
    by_cases q : j + 1 = k
    · exact Or.inr (fun z => h3 ⟨q, z⟩)
    · exact Or.inl q
theorem g_H.st2 (hrv : ∀ q, (rv q).category = 1) {ls : Array Slot} {n k : Nat} {L : g_L} {v w : Value} (hw : g_cv ad rv v = w) (h : lv_has ls n ((k, w) :: (g_en ad rv L).filter (fun q => !(q.1 == k) && (!(q.1 == k + 1) && !(q.1 + 1 == k && q.2.category == 2))))) : g_H ad rv ls n (g_st2 L k v) := by
  subst hw
  refine ⟨h.1, h.2.1, fun j u hj => ?_⟩
  unfold g_st2 at hj
  by_cases hj1 : j = k + 1
  · subst hj1
    cases g_nth_eq hj
  · rw [g_nth_ne hj1] at hj
    by_cases hjk : j = k
    · subst hjk
      have := Option.some.inj (g_nth_eq hj)
      subst this
      exact h.2.2 (j, _) List.mem_cons_self
    · rw [g_nth_ne hjk] at hj
      obtain ⟨h1, h2⟩ := g_nth_er hj
      refine h.2.2 (j, g_cv ad rv u) (List.mem_cons_of_mem _ (List.mem_filter.mpr ⟨g_en_mem.mpr ⟨u, h1, rfl⟩, ?_⟩))
      have h3 : ¬ (j + 1 = k ∧ (g_cv ad rv u).category = 2) := by rw [g_cat hrv]; exact h2
      simp only [Bool.and_eq_true, Bool.not_eq_true', beq_eq_false_iff_ne, ne_eq, Bool.and_eq_false_iff]
      refine ⟨hjk, hj1, ?_⟩
      by_cases q : j + 1 = k
      · exact Or.inr (fun z => h3 ⟨q, z⟩)
      · exact Or.inl q
theorem g_le_nth {L0 L : g_L} (h : g_le L0 L) {k : Nat} {v : Value} (hk : g_nth L0 k = some v) : g_nth L k = some v := by
  induction L0 generalizing L k with
  | nil => cases hk
  | cons a L0 ih =>
    cases L with
    | nil => cases a <;> exact h.elim
    | cons b L =>
      cases a with
      | none => cases k with
        | zero => cases hk
        | succ k => exact ih (L := L) h hk
      | some w => cases k with
        | zero => exact h.1.trans hk
        | succ k => exact ih (L := L) h.2 hk
theorem g_H.weak {ls : Array Slot} {n : Nat} {L0 L : g_L} (h : g_H ad rv ls n L) (hl : g_le L0 L) : g_H ad rv ls n L0 := ⟨h.1, h.2.1, fun k v hk => h.2.2 k v (g_le_nth hl hk)⟩
theorem g_slots_len (hrv : ∀ q, (rv q).category = 1) (as : List Value) : (lg_sl (as.map (g_cv ad rv))).length = (g_slots as).length := by
  induction as with
  | nil => rfl
  | cons v as ih =>
    have e : lg_sl ((v :: as).map (g_cv ad rv)) = (if (g_cv ad rv v).category = 2 then [Slot.val (g_cv ad rv v), .second] else [.val (g_cv ad rv v)]) ++ lg_sl (as.map (g_cv ad rv)) := rfl
    rw [e, List.length_append, ih, g_cat hrv]
    by_cases h : v.category = 2
    · rw [if_pos h, g_slots_2 h]
      show 2 + _ = (g_slots as).length + 1 + 1
      omega
    · rw [if_neg h, g_slots_1 h]
      show 1 + _ = (g_slots as).length + 1
      omega
theorem g_slots_at (hrv : ∀ q, (rv q).category = 1) (as : List Value) (m : Nat) : ∀ (i k : Nat) (v : Value), g_nth (g_slots as ++ List.replicate m none) k = some v → (i + k, g_cv ad rv v) ∈ lv_args i (as.map (g_cv ad rv)) := by
  induction as with
  | nil =>
    intro i k v h
    exfalso
    have : ∀ (m k : Nat), g_nth (List.replicate m none) k = none := by
      intro m
      induction m with
      | zero => intro k; rfl
      | succ m ih => intro k; cases k with
        | zero => rfl
        | succ k => exact ih k
    change g_nth (List.replicate m none) k = some v at h
    rw [this m k] at h
    cases h
  | cons u as ih =>
    intro i k v h
    have e : lv_args i ((u :: as).map (g_cv ad rv)) = (i, g_cv ad rv u) :: lv_args (if (g_cv ad rv u).category = 2 then i + 2 else i + 1) (as.map (g_cv ad rv)) := rfl
    rw [e, g_cat hrv]
    by_cases hc : u.category = 2
    · have e2 : g_slots (u :: as) = some u :: none :: g_slots as := g_slots_2 hc
      rw [e2] at h
      rw [if_pos hc]
      cases k with
      | zero => cases h; exact List.mem_cons_self
      | succ k => cases k with
        | zero => cases h
        | succ k =>
          have := ih (i + 2) k v h
          rw [show i + 2 + k = i + (k + 1 + 1) by omega] at this
          exact List.mem_cons_of_mem _ this
    · have e2 : g_slots (u :: as) = some u :: g_slots as := g_slots_1 hc
      rw [e2] at h
      rw [if_neg hc]
      cases k with
      | zero => cases h; exact List.mem_cons_self
      | succ k =>
        have := ih (i + 1) k v h
        rw [show i + 1 + k = i + (k + 1) by omega] at this
        exact List.mem_cons_of_mem _ this
theorem g_H.entry (hrv : ∀ q, (rv q).category = 1) {as : List Value} {n : Nat} (h : Nat.ble (g_slots as).length n = true) : g_H ad rv ((lg_sl (as.map (g_cv ad rv)) ++ List.replicate (n - (lg_sl (as.map (g_cv ad rv))).length) Slot.unset).toArray) n (g_ent n as) := by
  have hb := lv_entry (as.map (g_cv ad rv)) (n := n) (by rw [g_slots_len hrv]; exact Nat.le_of_ble_eq_true h)
  refine ⟨hb.1, hb.2.1, fun k v hk => ?_⟩
  have := g_slots_at (ad := ad) hrv as _ 0 k v hk
  rw [Nat.zero_add] at this
  exact hb.2.2 _ this
end GW
theorem g_pop_spec : ∀ (n : Nat) (acc st as r : List Value), g_pop n acc st = some (as, r) → ∃ pre, st = pre ++ r ∧ pre.length = n ∧ as = pre.reverse ++ acc
  | 0, acc, st, as, r, h => by cases h; exact ⟨[], rfl, rfl, rfl⟩
  | n + 1, acc, [], as, r, h => by cases h
  | n + 1, acc, v :: st, as, r, h => by
    obtain ⟨pre, h1, h2, h3⟩ := g_pop_spec n (v :: acc) st as r h
    exact ⟨v :: pre, by rw [h1]; rfl, by rw [List.length_cons, h2], by rw [h3, List.reverse_cons, List.append_assoc]; rfl⟩
theorem g_lk_mem {α : Type} {l : List (Nat × α)} {k : Nat} {r : α} (h : g_lk l k = some r) : (k, r) ∈ l := by
  induction l with
  | nil => cases h
  | cons q l ih =>
    unfold g_lk at h
    cases hb : Nat.beq q.1 k with
    | true =>
      rw [hb] at h
      have e := Nat.eq_of_beq_eq_true hb
      cases h
      rw [← e]
      exact List.mem_cons_self
    | false =>
      rw [hb] at h
      exact List.mem_cons_of_mem _ (ih h)
theorem g_at0_lt {α : Type} {l : List α} {k : Nat} {d : α} (h : g_at0 l k d ≠ d) : k < l.length := by
  induction l generalizing k with
  | nil => exact absurd rfl h
  | cons a l ih => cases k with
    | zero => exact Nat.succ_pos _
    | succ k => exact Nat.succ_lt_succ (ih h)
theorem g_at0_get {α : Type} {l : List α} {k : Nat} {d : α} (h : k < l.length) : l[k]? = some (g_at0 l k d) := by
  induction l generalizing k with
  | nil => cases h
  | cons a l ih => cases k with
    | zero => rfl
    | succ k => exact ih (Nat.lt_of_succ_lt_succ h)
theorem g_kd_9 (a : Nat) : ¬ g_kd a = 9 := by
  intro h
  by_cases ha : a < 84
  · have h1 : (List.range 84).all (fun a => decide (¬ g_kd a = 9)) = true := by decide +kernel
    exact of_decide_eq_true (List.all_eq_true.mp h1 a (List.mem_range.mpr ha)) h
  · have h2 : g_kd a ≠ 999 := by omega
    exact ha (g_at0_lt (l := g_kdl) h2)
theorem g_kd_lt {a : Nat} (h : g_kd a ≠ 999) : a < g_N := g_at0_lt (l := g_kdl) h
/-- the world -/
abbrev g_Y : Type := ClassId × ClassId × ClassId × ClassId
def g_mk (ad : Nat → Nat) (Y : g_Y) (a : Nat) (f : Nat → Int32) : va_E :=
  if g_kd a = 100 then .inl (Y.1, g_ln a, .inl f)
  else if g_kd a = 101 then .inl (Y.2.1, g_ln a, .inl f)
  else if g_kd a = 102 then .inl (Y.2.2.1, g_ln a, .inr (.inr (.inr (.inr (fun j => some (ad (g_ta a j)))))))
  else if g_kd a = 103 then .inl (Y.2.2.2, g_ln a, .inr (.inr (.inr (.inr (fun j => some (ad (g_ta a j)))))))
  else .inr (g_kd a, (List.range (g_C (g_kd a)).2.2).map (fun k => bif g_rf (g_kd a) k then .ref (ad (g_tg (g_kd a) k a)) else .int (f k)))
def g_w (ad : Nat → Nat) (Y : g_Y) (σ : g_S) : va_W := (List.range g_N).map (fun a => (ad a, g_mk ad Y a (σ a)))
abbrev g_tys (Y : g_Y) : List (ClassId × FieldType) := [(Y.1, .int), (Y.2.1, .boolean), (Y.2.2.1, .object "DialTown$Town"), (Y.2.2.2, .array .int)]
theorem g_w_at {ad : Nat → Nat} {Y : g_Y} {σ : g_S} {a : Nat} (h : a < g_N) : (g_w ad Y σ)[a]? = some (ad a, g_mk ad Y a (σ a)) := by
  unfold g_w
  rw [List.getElem?_map, List.getElem?_range h]; rfl
theorem g_w_set {ad : Nat → Nat} {Y : g_Y} {σ σ' : g_S} {a : Nat} {e : va_E} (h : a < g_N) (he : e = g_mk ad Y a (σ' a)) (ho : ∀ b, b ≠ a → σ' b = σ b) : (g_w ad Y σ).set a (ad a, e) = g_w ad Y σ' := by
  apply List.ext_getElem?
  intro k
  by_cases hk : k < g_N
  · by_cases hka : k = a
    · subst hka
      rw [g_w_at hk, List.getElem?_set_self (by rw [g_w, List.length_map, List.length_range]; exact hk), he]
    · rw [List.getElem?_set_ne (fun q => hka q.symm), g_w_at hk, g_w_at hk, ho k hka]
  · have l1 : (g_w ad Y σ').length = g_N := by rw [g_w, List.length_map, List.length_range]
    have l2 : ((g_w ad Y σ).set a (ad a, e)).length = g_N := by rw [List.length_set, g_w, List.length_map, List.length_range]
    rw [List.getElem?_eq_none (by omega), List.getElem?_eq_none (by omega)]
theorem g_mkI {ad : Nat → Nat} {Y : g_Y} {a : Nat} {f : Nat → Int32} (h : g_kd a = 100) : g_mk ad Y a f = .inl (Y.1, g_ln a, .inl f) := by unfold g_mk; rw [if_pos h]
theorem g_mkZ {ad : Nat → Nat} {Y : g_Y} {a : Nat} {f : Nat → Int32} (h : g_kd a = 101) : g_mk ad Y a f = .inl (Y.2.1, g_ln a, .inl f) := by unfold g_mk; rw [h]; rfl
theorem g_mkT {ad : Nat → Nat} {Y : g_Y} {a : Nat} {f : Nat → Int32} (h : g_kd a = 102) : g_mk ad Y a f = .inl (Y.2.2.1, g_ln a, .inr (.inr (.inr (.inr (fun j => some (ad (g_ta a j))))))) := by unfold g_mk; rw [h]; rfl
theorem g_mkR {ad : Nat → Nat} {Y : g_Y} {a : Nat} {f : Nat → Int32} (h : g_kd a = 103) : g_mk ad Y a f = .inl (Y.2.2.2, g_ln a, .inr (.inr (.inr (.inr (fun j => some (ad (g_ta a j))))))) := by unfold g_mk; rw [h]; rfl
theorem g_mkO {ad : Nat → Nat} {Y : g_Y} {a ci : Nat} {f : Nat → Int32} (h : g_kd a = ci) (hc : ci < 9) : g_mk ad Y a f = .inr (ci, (List.range (g_C ci).2.2).map (fun k => bif g_rf ci k then .ref (ad (g_tg ci k a)) else .int (f k))) := by
  unfold g_mk
  rw [h, if_neg (by omega), if_neg (by omega), if_neg (by omega), if_neg (by omega)]
theorem g_up_ne {σ : g_S} {a j b : Nat} {v : Int32} (h : b ≠ a) : g_up σ a j v b = σ b := by
  funext k
  unfold g_up
  rw [if_neg (fun q => h q.1)]
theorem g_up_eq {σ : g_S} {a j : Nat} {v : Int32} : g_up σ a j v a = upd (σ a) j v := by
  funext k
  unfold g_up upd
  by_cases h : k = j
  · rw [if_pos ⟨rfl, h⟩, if_pos h]
  · rw [if_neg (fun q => h q.2), if_neg h]
theorem g_cp_ne {σ : g_S} {s d sp dp n b : Nat} (h : b ≠ d) : g_cp σ s d sp dp n b = σ b := by
  funext k
  unfold g_cp
  rw [if_neg (fun q => h q.1)]
theorem g_cp_eq {σ : g_S} {s d sp dp n : Nat} : g_cp σ s d sp dp n d = va_cpy (σ s) (σ d) sp dp n := by
  funext k
  unfold g_cp va_cpy
  by_cases h : dp ≤ k ∧ k < dp + n
  · rw [if_pos ⟨rfl, h.1, h.2⟩, if_pos h]
  · rw [if_neg (fun q => h q.2), if_neg h]
/-- what is only read: statics, constant rows, texts, the script; the words of nest mates -/
def g_Z (E : g_E) (rv : Nat → Value) (A : Nat → Prop) (U : State) (H : Heap) : Prop :=
  (∀ w ∈ g_nest, va_Nw w U) ∧
  (∀ k, k < 6 → va_Z (g_at0 g_st k ("", "")).1 (g_at0 g_st k ("", "")).2 "[I" (rv k) A U H) ∧
  va_Z "jdk/internal/util/Preconditions" "SIOOBE_FORMATTER" "Ljava/util/function/BiFunction;" (rv 77) A U H ∧
  va_Z "java/lang/String" "COMPACT_STRINGS" "Z" (.int 1) A U H ∧
  (∀ q, (q < 6 ∨ q = 99) → ∃ b, rv q = .ref b ∧ va_T .int b (g_rn E q) (fun j => .int (g_ro E q j)) A U H) ∧
  (∀ i, i < 8 → ∃ a b, rv (20 + i) = .ref a ∧ rv (10 + i) = .ref b ∧ vk_R "DialTown$Reader" (g_at0 g_sk i (0, "")).1 (g_at0 g_sk i (0, "")).2 a U ∧ va_O "java/lang/String" a A U H ∧ va_OF "java/lang/String" "coder" "B" (.int 0) a A U H ∧ va_OF "java/lang/String" "value" "[B" (.ref b) a A U H ∧ va_T .byte b (g_rn E (10 + i)) (fun j => .int (g_ro E (10 + i) j)) A U H) ∧
  ∀ q, (∃ b, rv q = .ref b) ∨ rv q = .null
theorem g_rvk {rv : Nat → Value} (h : ∀ q, (∃ b, rv q = .ref b) ∨ rv q = .null) : ∀ q, (rv q).category = 1 := fun q => by
  rcases h q with ⟨b, hb⟩ | hb <;> rw [hb] <;> rfl
def g_isN : Jvm.Cond → Bool
  | .fieldLinkNest _ _ _ _ _ _ => true
  | .methodLinkNest _ _ _ _ => true
  | _ => false
theorem g_nestN : g_nest.all g_isN = true := by decide +kernel
theorem g_nwW {w : Jvm.Cond} (hw : w ∈ g_nest) {s U : State} (hW : s.WarmedH U.vm) (h : va_Nw w s) : va_Nw w U := by
  have h1 := List.all_eq_true.mp g_nestN w hw
  cases w with
  | fieldLinkNest a i b n d h => exact va_Nw.warmF hW (by assumption)
  | methodLinkNest a i x h => exact va_Nw.warmM hW (by assumption)
  | _ => cases h1
theorem g_nwT {w : Jvm.Cond} (hw : w ∈ g_nest) : w.onTables = true := by
  have h1 := List.all_eq_true.mp g_nestN w hw
  cases w with
  | fieldLinkNest a i b n d h => rfl
  | methodLinkNest a i x h => rfl
  | _ => cases h1
theorem g_Z.moved {E : g_E} {rv : Nat → Value} {A A' : Nat → Prop} {s U : State} {H : Heap} (h : g_Z E rv A s s.heap) (hW : s.WarmedH U.vm) (hk : ∀ q : Nat, q < s.heap.size → ¬ A q → H[q]? = s.heap[q]?) (hA : ∀ q, A' q → A q) : g_Z E rv A' U H := by
  obtain ⟨h1, h2, h3, h4, h5, h6, h7⟩ := h
  have hv := hW.alike
  refine ⟨fun w hw => g_nwW hw hW (h1 w hw), fun k hkk => ((h2 k hkk).kept hk).narrow hA |>.moved hv, ((h3.kept hk).narrow hA).moved hv, ((h4.kept hk).narrow hA).moved hv, fun q hq => ?_, fun i hi => ?_, h7⟩
  · obtain ⟨b, e, ht⟩ := h5 q hq
    exact ⟨b, e, ((ht.kept hk).narrow hA).moved hv⟩
  · obtain ⟨a, b, e1, e2, g1, g2, g3, g4, g5⟩ := h6 i hi
    exact ⟨a, b, e1, e2, g1.warm hW, ((g2.kept hk).narrow hA).moved hv, ((g3.kept hk).narrow hA).moved hv, ((g4.kept hk).narrow hA).moved hv, ((g5.kept hk).narrow hA).moved hv⟩
theorem g_Z.same {E : g_E} {rv : Nat → Value} {A : Nat → Prop} {u U : State} {H : Heap} (h : g_Z E rv A u H) (hv : U.vm = u.vm) : g_Z E rv A U H := by
  obtain ⟨h1, h2, h3, h4, h5, h6, h7⟩ := h
  have ha : u.vm.Alike U.vm := by rw [hv]; exact Vm.Alike.refl _
  refine ⟨fun w hw => (h1 w hw).same (g_nwT hw) hv.symm, fun k hkk => (h2 k hkk).moved ha, h3.moved ha, h4.moved ha, fun q hq => ?_, fun i hi => ?_, h7⟩
  · obtain ⟨b, e, ht⟩ := h5 q hq
    exact ⟨b, e, ht.moved ha⟩
  · obtain ⟨a, b, e1, e2, g1, g2, g3, g4, g5⟩ := h6 i hi
    exact ⟨a, b, e1, e2, g1.same hv, g2.moved ha, g3.moved ha, g4.moved ha, g5.moved ha⟩
end
section
/-! the small machine's steps are the machine's -/
def g_W : List Jvm.Cond := lw_tbl.filter goodWord
theorem g_in_mem {w : Jvm.Cond} (h : g_in w = true) : w ∈ g_W := by
  unfold g_in at h
  rw [Bool.and_eq_true] at h
  obtain ⟨c, hc, he⟩ := List.any_eq_true.mp h.2
  have := of_decide_eq_true he
  subst this
  exact List.mem_filter.mpr ⟨hc, h.1⟩
theorem g_inN_mem {w : Jvm.Cond} (h : g_inN w = true) : w ∈ g_nest := by
  obtain ⟨c, hc, he⟩ := List.any_eq_true.mp h
  have := of_decide_eq_true he
  subst this
  exact hc
theorem g_lays_ok : (List.range 9).all (fun ci => (u_ws (g_C ci).1 (g_C ci).2.1 (g_C ci).2.2).all g_in) = true := by decide +kernel
theorem g_lays {ci : Nat} (h : ci < 9) : ∀ w ∈ u_ws (g_C ci).1 (g_C ci).2.1 (g_C ci).2.2, w ∈ g_W := fun w hw =>
  g_in_mem (List.all_eq_true.mp (List.all_eq_true.mp g_lays_ok ci (List.mem_range.mpr h)) w hw)
theorem g_cls9 {P : Nat → Prop} (h0 : P 0) (h1 : P 1) (h2 : P 2) (h3 : P 3) (h4 : P 4) (h5 : P 5) (h6 : P 6) (h7 : P 7) (h8 : P 8) {ci : Nat} (h : ci < 9) : P ci := by
  rcases (show ci = 0 ∨ ci = 1 ∨ ci = 2 ∨ ci = 3 ∨ ci = 4 ∨ ci = 5 ∨ ci = 6 ∨ ci = 7 ∨ ci = 8 by omega) with rfl | rfl | rfl | rfl | rfl | rfl | rfl | rfl | rfl <;> assumption
theorem g_C_at {ci : Nat} (h : ci < 9) : vwCl[ci]? = some ((g_C ci).1, (g_C ci).2.1, (g_C ci).2.2) := g_at0_get (l := vwCl) (d := ("", TX0, 0)) h
theorem g_C_ty {ci : Nat} (h : ci < 9) : ∃ ty : Nat → FieldType, ∀ k, k < (g_C ci).2.2 → parseFieldDescriptor ((g_C ci).2.1 k).2.2.1 = some (ty k) :=
  g_cls9 (P := fun ci => ∃ ty : Nat → FieldType, ∀ k, k < (g_C ci).2.2 → parseFieldDescriptor ((g_C ci).2.1 k).2.2.1 = some (ty k)) ⟨_, tyX0_ok⟩ ⟨_, tyX1_ok⟩ ⟨_, tyX2_ok⟩ ⟨_, tyX3_ok⟩ ⟨_, tyX4_ok⟩ ⟨_, tyX5_ok⟩ ⟨_, tyX6_ok⟩ ⟨_, tyX7_ok⟩ ⟨_, tyX8_ok⟩ h
theorem g_C_nm {ci : Nat} (h : ci < 9) : ∀ a, a < (g_C ci).2.2 → ∀ b, b < (g_C ci).2.2 → a ≠ b → ((g_C ci).2.1 a).2.1 ≠ ((g_C ci).2.1 b).2.1 :=
  g_cls9 (P := fun ci => ∀ a, a < (g_C ci).2.2 → ∀ b, b < (g_C ci).2.2 → a ≠ b → ((g_C ci).2.1 a).2.1 ≠ ((g_C ci).2.1 b).2.1) nmX0 nmX1 nmX2 nmX3 nmX4 nmX5 nmX6 nmX7 nmX8 h
theorem g_fitsZ {v : Int32} (h : narrow .boolean (.int v) = .int v) : fits .boolean (.int v) = true := by
  rw [← h]; exact fits_narrow_boolean v
def g_A (ad : Nat → Nat) : Nat → Prop := fun q => ∃ a, a < g_N ∧ q = ad a
section GS
variable {p : Program} {l : Launch} {e : Env} {Rm : Room} {s : State} {m : MethodId} {args : Array Value} {below : List Frame} {meth : Method} {c : Code} {Q : State → Prop}
variable {ad : Nat → Nat} {rv : Nat → Value} {D : va_G} {Y : g_Y} {A : Nat → Prop} {E : g_E} {M : Nat}
/-- a state of the small machine, at the machine: from it on W -/
def g_P (p : Program) (l : Launch) (e : Env) (Rm : Room) (s : State) (m : MethodId) (args : Array Value) (below : List Frame) (meth : Method) (c : Code) (Q : State → Prop) (ad : Nat → Nat) (rv : Nat → Value) (D : va_G) (Y : g_Y) (A : Nat → Prop) (n cells slots : Nat) : g_K := fun pc L st σ =>
  ∀ (H : Heap) (locs : List Loc) (ls : Array Slot), g_H ad rv ls n L → va_P D vwCl (g_w ad Y σ) H → va_D A (g_w ad Y σ) → va_S A s.heap H locs → W p l e Rm s m args below meth c H locs cells slots Q (F0 m pc ls (st.map (g_cv ad rv)))
theorem g_ble {r : List Value} (hrv : ∀ q, (rv q).category = 1) (h : Nat.ble r.length 4 = true) : ((r.map (g_cv ad rv)).map fun v => v.category).sum ≤ 8 := by
  have h1 := Nat.le_of_ble_eq_true h
  have key : ∀ r : List Value, ((r.map (g_cv ad rv)).map fun v => v.category).sum ≤ 2 * r.length := by
    intro r
    induction r with
    | nil => exact Nat.le_refl _
    | cons v r ih =>
      simp only [List.map_cons, List.sum_cons, List.length_cons]
      rw [g_cat hrv]
      rcases lv_cat v with q | q <;> omega
  exact Nat.le_trans (key r) (by omega)
theorem g_back {cells slots mc ms pc : Nat} {H : Heap} {locs : List Loc} {ls : Array Slot} {st0 rest : List Value} {a : Array Value} {A1 : Nat → Prop} {free : Addr → Prop} {Qx : Option Value → State → Prop}
    (hr : va_Run p l e Rm s m args below meth c H locs cells slots mc ms (F0 m pc ls st0) rest (fun st oc t => (∃ r, oc = .returned r ∧ Qx r t) ∧ va_F A1 st t) free) (hS : va_S A s.heap H locs) (hA : ∀ q, A1 q → A q) (hf : ∀ q, free q → A q)
    (kk : ∀ (r : Option Value) (t : State) (H1 : Heap) (locs1 : List Loc), t.heap = H1 → s.vm.Alike t.vm → Qx r t → va_S A s.heap H1 locs1 → W p l e Rm s m args below meth c H1 locs1 (cells + mc) (slots + ms) Q (F0 m (pc + 3) ls (r.toList ++ rest))) : W p l e Rm s m args below meth c H locs cells slots Q (F0 m pc ls st0) := by
  intro T hT X
  obtain ⟨v, st₀, t, T', L, h0, X', hL, e1, e2, ⟨⟨r, hv, hp⟩, hz, hk⟩, st⟩ := hr T hT X
  cases hv
  rw [h0] at hz hk
  obtain ⟨t2, a1, b1⟩ := kk v t T'.heap (locs ++ L) e1.symm (by rw [← e2]; exact X'.warmed.alike) hp
    ⟨Nat.le_trans hS.1 (by rw [e1]; exact hz), fun q h1 h2 => by rw [e1, hk q (Nat.lt_of_lt_of_le h1 hS.1) (fun z => h2 (hA q z))]; exact hS.2.1 q h1 h2, fun q hq => by
      rcases List.mem_append.mp hq with h | h
      · exact hS.2.2 q h
      · exact hf _ (hL q h)⟩ T' rfl X'
  exact ⟨t2, st t2 a1, b1⟩
/-- room for a call that goes d deep -/
def g_rm (d : Nat) : Room := { frames := d + 1, cells := 0, slots := 0, locals := 64 * (d + 1) }
/-- what holds where a method begins -/
def g_Pre (E : g_E) (ad : Nat → Nat) (rv : Nat → Value) (D : va_G) (Y : g_Y) (σ : g_S) (U : State) : Prop :=
  va_P D vwCl (g_w ad Y σ) U.heap ∧ va_K D vwCl (g_tys Y) U ∧ va_D (g_A ad) (g_w ad Y σ) ∧ g_Z E rv (g_A ad) U U.heap
def g_Post (ad : Nat → Nat) (rv : Nat → Value) (D : va_G) (Y : g_Y) (R : g_R) (r : Option Value) (t : State) : Prop :=
  ∃ u σ, R u σ ∧ r = u.map (g_cv ad rv) ∧ va_P D vwCl (g_w ad Y σ) t.heap ∧ va_D (g_A ad) (g_w ad Y σ)
/-- the contract of a call of the small machine -/
def g_Con (E : g_E) (ad : Nat → Nat) (rv : Nat → Value) (D : va_G) (Y : g_Y) (l : Launch) (d M : Nat) (as : List Value) (σ : g_S) (R : g_R) : Prop :=
  Met l (g_y M) (.code (g_y M) (g_by M) (g_ml M) (g_rt M) :: g_W) (g_rm d) (va_Pc (as.map (g_cv ad rv)) (g_Pre E ad rv D Y σ)) (fun _ st oc t => (∃ r, oc = .returned r ∧ g_Post ad rv D Y R r t) ∧ va_F (g_A ad) st t) 0 0 (g_A ad)
theorem g_blind {E : g_E} {σ : g_S} {vs : List Value} : FrameBlind (va_Pc vs (g_Pre E ad rv D Y σ)) := by
  intro a U g mk h
  obtain ⟨h0, h1, h2, h3, h4⟩ := h
  exact ⟨h0, h1, va_K.moved (u := U) (U := U.calling g mk a) (Vm.Alike.refl U.vm) h2, h3, g_Z.same (U := U.calling g mk a) h4 rfl⟩
end GS
end
section
section GT
variable {p : Program} {l : Launch} {e : Env} {Rm : Room} {s : State} {m : MethodId} {args : Array Value} {below : List Frame} {meth : Method} {c : Code} {Q : State → Prop}
variable {ad : Nat → Nat} {rv : Nat → Value} {D : va_G} {Y : g_Y} {A : Nat → Prop} {E : g_E} {M : Nat}
/-- what a frame that runs method M stands on -/
def g_Fr (p : Program) (l : Launch) (Rm : Room) (s : State) (m : MethodId) (args : Array Value) (c : Code) (ad : Nat → Nat) (rv : Nat → Value) (D : va_G) (Y : g_Y) (A : Nat → Prop) (E : g_E) (M d cells slots : Nat) : Prop :=
  p.tables.exec = Jvm.exec ∧ c.code = g_by M ∧ c.maxLocals = g_ml M ∧ s.vm.findClass (g_y M).cls = some m.cls ∧ (∀ w ∈ g_W, w.before args s = true) ∧ va_K D vwCl (g_tys Y) s ∧ g_Z E rv A s s.heap ∧ (∀ q, g_A ad q → A q) ∧ (d + 1 ≤ Rm.frames ∧ 64 * (d + 1) ≤ Rm.locals) ∧ cells ≤ Rm.cells ∧ slots ≤ Rm.slots
/-- a frame's own cells are numbered -/
theorem g_Dn {σ : g_S} (hA : ∀ q, g_A ad q → A q) (hD : va_D A (g_w ad Y σ)) : va_D (g_A ad) (g_w ad Y σ) := by
  refine ⟨hD.1, fun k q hq => ?_⟩
  have hk : k < g_N := by
    have := (List.getElem?_eq_some_iff.mp hq).1
    rw [g_w, List.length_map, List.length_range] at this
    exact this
  rw [g_w_at hk] at hq
  cases hq
  exact ⟨k, hk, rfl⟩
theorem g_Dw {σ : g_S} (hA : ∀ q, g_A ad q → A q) (hD : va_D (g_A ad) (g_w ad Y σ)) : va_D A (g_w ad Y σ) := hD.weaken (fun k q _ h => hA q.1 h)
theorem g_goodIn {M : Nat} (h : g_in (.code (g_y M) (g_by M) (g_ml M) (g_rt M)) = true) : ∀ w ∈ (.code (g_y M) (g_by M) (g_ml M) (g_rt M) :: g_W : List Jvm.Cond), w ∈ g_W ∧ ((w.onTables && w.keeps) = true ∨ ∃ ty, w = .arrayClass ty) := by
  intro w hw
  have h1 : w ∈ g_W := by
    rcases List.mem_cons.mp hw with rfl | h2
    · exact g_in_mem h
    · exact h2
  exact ⟨h1, good_of_word (List.mem_filter.mp h1).2⟩
/-- a call, from the frame of M, of M' -/
theorem g_callN {d cells slots pc : Nat} {M' : Nat} {K : g_K} {L : g_L} {σ : g_S} {as r : List Value} {R' : g_R} {H : Heap} {locs : List Loc} {ls : Array Slot} {st0 : List Value}
    (F : g_Fr p l Rm s m args c ad rv D Y A E M (d + 1) cells slots) (hM : g_Con E ad rv D Y l d M' as σ R') (hP : va_P D vwCl (g_w ad Y σ) H) (hD : va_D A (g_w ad Y σ)) (hS : va_S A s.heap H locs) (hL : g_H ad rv ls (g_ml M) L)
    (hr : va_Run p l e Rm s m args below meth c H locs cells slots 0 0 (F0 m pc ls st0) (r.map (g_cv ad rv)) (fun st oc t => (∃ r, oc = .returned r ∧ g_Post ad rv D Y R' r t) ∧ va_F (g_A ad) st t) (g_A ad))
    (hK : ∀ u σ1, R' u σ1 → K (pc + 3) L (u.toList ++ r) σ1) (hQ : ∀ pc L st σ, K pc L st σ → g_P p l e Rm s m args below meth c Q ad rv D Y A (g_ml M) cells slots pc L st σ) :
    W p l e Rm s m args below meth c H locs cells slots Q (F0 m pc ls st0) := by
  refine g_back (a := #[]) hr hS F.2.2.2.2.2.2.2.1 F.2.2.2.2.2.2.2.1 (fun u t H1 locs1 ht hvm hp hS1 => ?_)
  obtain ⟨v, σ1, hR, hu, hP1, hD1⟩ := hp
  rw [ht] at hP1
  subst hu
  have := hQ _ _ _ _ (hK v σ1 hR) H1 locs1 ls hL hP1 (g_Dw F.2.2.2.2.2.2.2.1 hD1) hS1
  rw [List.map_append] at this
  cases v with
  | none => exact this
  | some v => exact this
theorem g_preOf {d cells slots : Nat} {σ : g_S} {as : List Value} {H : Heap} {locs : List Loc} (F : g_Fr p l Rm s m args c ad rv D Y A E M (d + 1) cells slots) (hP : va_P D vwCl (g_w ad Y σ) H) (hD : va_D A (g_w ad Y σ)) (hS : va_S A s.heap H locs) :
    ∀ U : State, U.heap = H → s.WarmedH U.vm → va_Pc (as.map (g_cv ad rv)) (g_Pre E ad rv D Y σ) (as.map (g_cv ad rv)).toArray U := by
  intro U hU hW
  obtain ⟨-, -, -, -, -, hK, hZ, hA, -⟩ := F
  refine ⟨rfl, by rw [hU]; exact hP, va_K.moved hW.alike hK, g_Dn hA hD, ?_⟩
  rw [hU]
  exact hZ.moved hW (fun q h1 h2 => hS.2.1 q h1 h2) hA
end GT
end
section
/-! each step read backwards -/
section GI
variable {K : g_K} {pc n k : Nat} {L : g_L} {st : List Value} {σ : g_S}
theorem g_ild_i (h : g_ild K pc n k L st σ) : ∃ v, g_nth L k = some (.int v) ∧ K (pc + n) L (.int v :: st) σ := by
  unfold g_ild at h
  split at h
  · exact ⟨_, by assumption, h⟩
  · exact h.elim
theorem g_lld_i (h : g_lld K pc n k L st σ) : ∃ v, g_nth L k = some (.long v) ∧ K (pc + n) L (.long v :: st) σ := by
  unfold g_lld at h
  split at h
  · exact ⟨_, by assumption, h⟩
  · exact h.elim
theorem g_ald_i (h : g_ald K pc n k L st σ) : (∃ v, g_nth L k = some (.ref v) ∧ K (pc + n) L (.ref v :: st) σ) ∨ ∃ v, g_nth L k = some (.retAddr v) ∧ K (pc + n) L (.retAddr v :: st) σ := by
  unfold g_ald at h
  split at h
  · exact Or.inl ⟨_, by assumption, h⟩
  · exact Or.inr ⟨_, by assumption, h⟩
  · exact h.elim
theorem g_ist_i (h : g_ist K pc n k L st σ) : ∃ v r, st = .int v :: r ∧ K (pc + n) (g_st1 L k (.int v)) r σ := by
  unfold g_ist at h
  split at h
  · exact ⟨_, _, rfl, h⟩
  · exact h.elim
theorem g_lst_i (h : g_lst K pc n k L st σ) : ∃ v r, st = .long v :: r ∧ K (pc + n) (g_st2 L k (.long v)) r σ := by
  unfold g_lst at h
  split at h
  · exact ⟨_, _, rfl, h⟩
  · exact h.elim
theorem g_ast_i (h : g_ast K pc n k L st σ) : ∃ v r, st = .ref v :: r ∧ K (pc + n) (g_st1 L k (.ref v)) r σ := by
  unfold g_ast at h
  split at h
  · exact ⟨_, _, rfl, h⟩
  · exact h.elim
theorem g_i2_i {f : Int32 → Int32 → Int32} (h : g_i2 K pc L st σ f) : ∃ y x r, st = .int y :: .int x :: r ∧ K (pc + 1) L (.int (f x y) :: r) σ := by
  unfold g_i2 at h
  split at h
  · exact ⟨_, _, _, rfl, h⟩
  · exact h.elim
theorem g_l2_i {f : Int64 → Int64 → Int64} (h : g_l2 K pc L st σ f) : ∃ y x r, st = .long y :: .long x :: r ∧ K (pc + 1) L (.long (f x y) :: r) σ := by
  unfold g_l2 at h
  split at h
  · exact ⟨_, _, _, rfl, h⟩
  · exact h.elim
theorem g_ls_i {f : Int64 → Int32 → Int64} (h : g_ls K pc L st σ f) : ∃ y x r, st = .int y :: .long x :: r ∧ K (pc + 1) L (.long (f x y) :: r) σ := by
  unfold g_ls at h
  split at h
  · exact ⟨_, _, _, rfl, h⟩
  · exact h.elim
theorem g_i1_i {f : Int32 → Int32} (h : g_i1 K pc L st σ f) : ∃ x r, st = .int x :: r ∧ K (pc + 1) L (.int (f x) :: r) σ := by
  unfold g_i1 at h
  split at h
  · exact ⟨_, _, rfl, h⟩
  · exact h.elim
theorem g_sw_i {P : Nat → Prop} {v : Int32} {ts : List Nat} {c j t : Nat} (h : g_sw P v c ts) (ht : ts[j]? = some t) (hv : v = Int32.ofNat (c + j)) : P t := by
  induction ts generalizing c j with
  | nil => cases ht
  | cons u ts ih =>
    cases j with
    | zero => cases ht; exact h.1 hv
    | succ j => exact ih h.2 ht (by rw [hv]; congr 1; omega)
end GI
section GU
variable {p : Program} {l : Launch} {e : Env} {Rm : Room} {s : State} {m : MethodId} {args : Array Value} {below : List Frame} {meth : Method} {c : Code} {Q : State → Prop}
variable {ad : Nat → Nat} {rv : Nat → Value} {D : va_G} {Y : g_Y} {A : Nat → Prop} {E : g_E} {M : Nat}
/-- how the frame's end is taken -/
def g_Ret (p : Program) (l : Launch) (e : Env) (Rm : Room) (s : State) (m : MethodId) (args : Array Value) (below : List Frame) (meth : Method) (c : Code) (Q : State → Prop) (ad : Nat → Nat) (D : va_G) (Y : g_Y) (A : Nat → Prop) (M cells slots : Nat) (R : g_R) : Prop :=
  (∀ (pc : Nat) (H : Heap) (locs : List Loc) (ls : Array Slot) (v : Int32) (ty : FieldType) (σ : g_S), decode (g_by M) pc = .ok (.ireturn, 1) → g_rt M = some ty → narrow ty (.int v) = .int v → R (some (.int v)) σ → va_P D vwCl (g_w ad Y σ) H → va_D A (g_w ad Y σ) → va_S A s.heap H locs → W p l e Rm s m args below meth c H locs cells slots Q (F0 m pc ls [.int v])) ∧
  (∀ (pc : Nat) (H : Heap) (locs : List Loc) (ls : Array Slot) (v : Int64) (σ : g_S), decode (g_by M) pc = .ok (.lreturn, 1) → g_rt M = some .long → R (some (.long v)) σ → va_P D vwCl (g_w ad Y σ) H → va_D A (g_w ad Y σ) → va_S A s.heap H locs → W p l e Rm s m args below meth c H locs cells slots Q (F0 m pc ls [.long v])) ∧
  ∀ (pc : Nat) (H : Heap) (locs : List Loc) (ls : Array Slot) (σ : g_S), decode (g_by M) pc = .ok (.return_, 1) → g_rt M = none → R none σ → va_P D vwCl (g_w ad Y σ) H → va_D A (g_w ad Y σ) → va_S A s.heap H locs → W p l e Rm s m args below meth c H locs cells slots Q (F0 m pc ls [])
theorem g_libs : g_in (.static arraycopyName) = true ∧ g_in (.native arraycopyName) = true ∧ g_in (.initialized "java/lang/System") = true ∧ g_in (.initialized "java/lang/Math") = true ∧ g_in (.static Lib.Math.max.name) = true ∧ g_in (.static Lib.Math.min.name) = true ∧ g_in (.static Lib.Math.abs.name) = true ∧ g_in (.code Lib.Math.max.name Lib.Math.max.code 2 (some .int)) = true ∧ g_in (.code Lib.Math.min.name Lib.Math.min.code 2 (some .int)) = true ∧ g_in (.code Lib.Math.abs.name Lib.Math.abs.code 1 (some .int)) = true := by decide +kernel
theorem g_params {M' n : Nat} (h : (parseMethodDescriptor (g_y M').desc).map (fun d => d.parameters.length) = some n) : ∀ sig, parseMethodDescriptor (g_y M').desc = some sig → n = sig.parameters.length := by
  intro sig hs
  rw [hs] at h
  exact (Option.some.inj h).symm
theorem g_okM_i {M' : Nat} (h : g_okM M' = true) : g_in (.code (g_y M') (g_by M') (g_ml M') (g_rt M')) = true ∧ g_in (.initialized (g_y M').cls) = true ∧ ((g_y M').cls ≠ "java/lang/invoke/MethodHandle" ∧ (g_y M').cls ≠ "java/lang/invoke/VarHandle") ∧ plainName (g_y M').cls = true ∧ g_ml M' ≤ 20 := by
  unfold g_okM at h
  simp only [Bool.and_eq_true, decide_eq_true_eq] at h
  obtain ⟨⟨⟨⟨⟨h1, h2⟩, h3⟩, h4⟩, h5⟩, h6⟩ := h
  exact ⟨h1, h2, ⟨h3, h4⟩, h5, h6⟩
/-- an instance method's call -/
theorem g_callV {d cells slots pc idx : Nat} {M' : Nat} {K : g_K} {L : g_L} {σ : g_S} {v : Value} {as r : List Value} {R' : g_R} {H : Heap} {locs : List Loc} {ls : Array Slot} (F : g_Fr p l Rm s m args c ad rv D Y A E M (d + 1) cells slots) (hM : g_Con E ad rv D Y l d M' (v :: as) σ R')
    (ho : g_okM M' = true) (hn : (parseMethodDescriptor (g_y M').desc).map (fun d => d.parameters.length) = some as.length) (hin : g_in (.instanceMethod (g_y M')) = true) (hse : g_in (.selects (g_y M').cls (g_y M') (g_y M')) = true) (hlk : g_in (.methodLink (g_y M).cls idx (g_y M')) = true ∨ g_inN (.methodLinkNest (g_y M).cls idx (g_y M') "DialTown") = true)
    {b : Nat} (hvb : g_cv ad rv v = .ref b) (hrc : ∃ cellB : Cell, H[b]? = some cellB ∧ cellB.vm.isStatics = false ∧ s.vm.findClass (g_y M').cls = some cellB.cls)
    (hP : va_P D vwCl (g_w ad Y σ) H) (hD : va_D A (g_w ad Y σ)) (hS : va_S A s.heap H locs) (hL : g_H ad rv ls (g_ml M) L) (hrl : Nat.ble r.length 4 = true) (hdg : decode (g_by M) pc = .ok (.invokevirtual idx, 3))
    (hK : ∀ u σ1, R' u σ1 → K (pc + 3) L (u.toList ++ r) σ1) (hQ : ∀ pc L st σ, K pc L st σ → g_P p l e Rm s m args below meth c Q ad rv D Y A (g_ml M) cells slots pc L st σ) :
    W p l e Rm s m args below meth c H locs cells slots Q (F0 m pc ls ((as.reverse ++ v :: r).map (g_cv ad rv))) := by
  have F' := F
  obtain ⟨hx, hb, hml, hown, hts, hKK, hZ, hA, hroom, hc1, hc2⟩ := F
  have hrv := g_rvk hZ.2.2.2.2.2.2
  obtain ⟨o1, o2, o3, o4, o5⟩ := g_okM_i ho
  refine g_callN (M' := M') F' hM hP hD hS hL ?_ hK hQ
  have hpre : PreV s H (g_y M').cls b (va_Pc ((v :: as).map (g_cv ad rv)) (g_Pre E ad rv D Y σ)) (as.map (g_cv ad rv)) :=
    ⟨g_blind, hrc, fun U hU hW => by
      have := g_preOf (as := v :: as) F' hP hD hS U hU hW
      rw [List.map_cons, hvb] at this
      rw [List.map_cons, hvb]
      exact this⟩
  have hst : (as.reverse ++ v :: r).map (g_cv ad rv) = (as.map (g_cv ad rv)).reverse ++ .ref b :: r.map (g_cv ad rv) := by
    rw [List.map_append, List.map_cons, hvb, List.map_reverse]
  have hR : (g_rm d).frames + 1 ≤ Rm.frames ∧ 8 + (g_ml M' + 11) + (g_rm d).locals ≤ Rm.locals := by
    have h1 : (g_rm d).frames = d + 1 := rfl
    have h2 : (g_rm d).locals = 64 * (d + 1) := rfl
    rw [h1, h2]
    omega
  have hws := pay_in hts (g_goodIn o1)
  rcases hlk with hlk | hlk
  · exact va_runV (nL := g_ml M) (Ts := g_W) (n := as.length) (y := g_y M') (bytes := g_by M') (maxL := g_ml M') (ret := g_rt M') ⟨hx, hb, hml, hown, hts⟩ hM ⟨⟨rfl, rfl, hR.1, hR.2, hws, List.mem_cons_self, hts _ (g_in_mem o1), hts _ (g_in_mem o2), o3, g_params hn, hts _ (g_in_mem hlk)⟩, hts _ (g_in_mem hin), hts _ (g_in_mem hse)⟩ hpre rfl (by rw [List.length_map]) hL.1 hst (by
      have := g_ble (ad := ad) hrv hrl
      show 2 * 0 + _ ≤ 8
      omega) hdg ⟨hc1, hc2⟩
  · exact va_runVN (nL := g_ml M) (Ts := g_W) (n := as.length) (y := g_y M') (bytes := g_by M') (maxL := g_ml M') (ret := g_rt M') (C := (g_y M').cls) (host := "DialTown") ⟨hx, hb, hml, hown, hts⟩ hM ⟨⟨⟨rfl, rfl, hR.1, hR.2, hws, List.mem_cons_self⟩, hts _ (g_in_mem o1), hts _ (g_in_mem o2), o3, g_params hn, (hZ.1 _ (g_inN_mem hlk)).use rfl⟩, hts _ (g_in_mem hin), hts _ (g_in_mem hse)⟩ hpre rfl (by rw [List.length_map]) hL.1 hst (by
      have := g_ble (ad := ad) hrv hrl
      show 2 * 0 + _ ≤ 8
      omega) hdg ⟨hc1, hc2⟩
theorem g_callS {d cells slots pc idx : Nat} {M' : Nat} {K : g_K} {L : g_L} {σ : g_S} {as r : List Value} {R' : g_R} {H : Heap} {locs : List Loc} {ls : Array Slot} (F : g_Fr p l Rm s m args c ad rv D Y A E M (d + 1) cells slots) (hM : g_Con E ad rv D Y l d M' as σ R')
    (ho : g_okM M' = true) (hn : (parseMethodDescriptor (g_y M').desc).map (fun d => d.parameters.length) = some as.length) (hin : g_in (.static (g_y M')) = true) (hlk : g_in (.methodLink (g_y M).cls idx (g_y M')) = true ∨ g_inN (.methodLinkNest (g_y M).cls idx (g_y M') "DialTown") = true)
    (hP : va_P D vwCl (g_w ad Y σ) H) (hD : va_D A (g_w ad Y σ)) (hS : va_S A s.heap H locs) (hL : g_H ad rv ls (g_ml M) L) (hrl : Nat.ble r.length 4 = true) (hdg : decode (g_by M) pc = .ok (.invokestatic idx, 3))
    (hK : ∀ u σ1, R' u σ1 → K (pc + 3) L (u.toList ++ r) σ1) (hQ : ∀ pc L st σ, K pc L st σ → g_P p l e Rm s m args below meth c Q ad rv D Y A (g_ml M) cells slots pc L st σ) :
    W p l e Rm s m args below meth c H locs cells slots Q (F0 m pc ls ((as.reverse ++ r).map (g_cv ad rv))) := by
  have F' := F
  obtain ⟨hx, hb, hml, hown, hts, hKK, hZ, hA, hroom, hc1, hc2⟩ := F
  have hrv := g_rvk hZ.2.2.2.2.2.2
  obtain ⟨o1, o2, o3, o4, o5⟩ := g_okM_i ho
  refine g_callN (M' := M') F' hM hP hD hS hL ?_ hK hQ
  have hpre : PreS s H (va_Pc (as.map (g_cv ad rv)) (g_Pre E ad rv D Y σ)) (as.map (g_cv ad rv)) := ⟨g_blind, g_preOf F' hP hD hS⟩
  have hst : (as.reverse ++ r).map (g_cv ad rv) = (as.map (g_cv ad rv)).reverse ++ r.map (g_cv ad rv) := by
    rw [List.map_append, List.map_reverse]
  have hR : (g_rm d).frames + 1 ≤ Rm.frames ∧ 8 + (g_ml M' + 11) + (g_rm d).locals ≤ Rm.locals := by
    have h1 : (g_rm d).frames = d + 1 := rfl
    have h2 : (g_rm d).locals = 64 * (d + 1) := rfl
    rw [h1, h2]
    omega
  have hws := pay_in hts (g_goodIn o1)
  rcases hlk with hlk | hlk
  · exact va_runS (nL := g_ml M) (Ts := g_W) (n := as.length) (y := g_y M') (bytes := g_by M') (maxL := g_ml M') (ret := g_rt M') ⟨hx, hb, hml, hown, hts⟩ hM ⟨⟨rfl, rfl, hR.1, hR.2, hws, List.mem_cons_self, hts _ (g_in_mem o1), hts _ (g_in_mem o2), o3, g_params hn, hts _ (g_in_mem hlk)⟩, hts _ (g_in_mem hin)⟩ hpre rfl (by rw [List.length_map]) hL.1 hst (by
      have := g_ble (ad := ad) hrv hrl
      show 2 * 0 + _ ≤ 8
      omega) hdg ⟨hc1, hc2⟩
  · exact va_runSN (nL := g_ml M) (Ts := g_W) (n := as.length) (y := g_y M') (bytes := g_by M') (maxL := g_ml M') (ret := g_rt M') (host := "DialTown") ⟨hx, hb, hml, hown, hts⟩ hM ⟨⟨⟨rfl, rfl, hR.1, hR.2, hws, List.mem_cons_self⟩, hts _ (g_in_mem o1), hts _ (g_in_mem o2), o3, g_params hn, (hZ.1 _ (g_inN_mem hlk)).use rfl⟩, hts _ (g_in_mem hin), trivial⟩ hpre rfl (by rw [List.length_map]) hL.1 hst (by
      have := g_ble (ad := ad) hrv hrl
      show 2 * 0 + _ ≤ 8
      omega) hdg ⟨hc1, hc2⟩
end GU
end
section
section GV
variable {p : Program} {l : Launch} {e : Env} {Rm : Room} {s : State} {m : MethodId} {args : Array Value} {below : List Frame} {meth : Method} {c : Code} {Q : State → Prop}
variable {ad : Nat → Nat} {rv : Nat → Value} {D : va_G} {Y : g_Y} {A : Nat → Prop} {E : g_E} {M d : Nat}
theorem g_wI {cells slots : Nat} {σ : g_S} {H : Heap} {locs : List Loc} {a pc : Nat} {v j : Int32} {ls : Array Slot} {rest : List Value} (F : g_Fr p l Rm s m args c ad rv D Y A E M d cells slots) (hk : g_kd a = 100) (hj : vp_in j (g_ln a)) (hdg : decode (g_by M) pc = .ok (.iastore, 1))
    (hP : va_P D vwCl (g_w ad Y σ) H) (hD : va_D A (g_w ad Y σ)) (hS : va_S A s.heap H locs)
    (kk : ∀ (H1 : Heap) (locs1 : List Loc), va_P D vwCl (g_w ad Y (g_up σ a j.toNatClampNeg v)) H1 → va_D A (g_w ad Y (g_up σ a j.toNatClampNeg v)) → va_S A s.heap H1 locs1 → W p l e Rm s m args below meth c H1 locs1 cells slots Q (F0 m (pc + 1) ls rest)) : W p l e Rm s m args below meth c H locs cells slots Q (F0 m pc ls (.int v :: .int j :: .ref (ad a) :: rest)) := by
  obtain ⟨hx, hb, hml, hown, hts, hK, hZ, hA, hroom, hc1, hc2⟩ := F
  have ha : a < g_N := g_kd_lt (by omega)
  have hw := g_w_at (ad := ad) (Y := Y) (σ := σ) ha
  rw [g_mkI hk] at hw
  refine va_iast hx hb hK hP hD hS a 0 hw rfl hj hdg (fun H1 locs1 h1 h2 h3 => ?_)
  rw [g_w_set (σ' := g_up σ a j.toNatClampNeg v) ha (by rw [g_mkI hk, g_up_eq]) (fun b hb => g_up_ne hb)] at h1 h2
  exact kk H1 locs1 h1 h2 h3
theorem g_wZ {cells slots : Nat} {σ : g_S} {H : Heap} {locs : List Loc} {a pc : Nat} {v j : Int32} {ls : Array Slot} {rest : List Value} (F : g_Fr p l Rm s m args c ad rv D Y A E M d cells slots) (hk : g_kd a = 101) (hj : vp_in j (g_ln a)) (hn : narrow .boolean (.int v) = .int v) (hdg : decode (g_by M) pc = .ok (.bastore, 1))
    (hP : va_P D vwCl (g_w ad Y σ) H) (hD : va_D A (g_w ad Y σ)) (hS : va_S A s.heap H locs)
    (kk : ∀ (H1 : Heap) (locs1 : List Loc), va_P D vwCl (g_w ad Y (g_up σ a j.toNatClampNeg v)) H1 → va_D A (g_w ad Y (g_up σ a j.toNatClampNeg v)) → va_S A s.heap H1 locs1 → W p l e Rm s m args below meth c H1 locs1 cells slots Q (F0 m (pc + 1) ls rest)) : W p l e Rm s m args below meth c H locs cells slots Q (F0 m pc ls (.int v :: .int j :: .ref (ad a) :: rest)) := by
  obtain ⟨hx, hb, hml, hown, hts, hK, hZ, hA, hroom, hc1, hc2⟩ := F
  have ha : a < g_N := g_kd_lt (by omega)
  have hw := g_w_at (ad := ad) (Y := Y) (σ := σ) ha
  rw [g_mkZ hk] at hw
  have hv : vp_nar .boolean v = v := by
    have : v &&& 1 = v := Value.int.inj hn
    exact this
  refine va_zast hx hb hK hP hD hS a 1 hw rfl hj hdg (fun H1 locs1 h1 h2 h3 => ?_)
  rw [hv] at h1 h2
  rw [g_w_set (σ' := g_up σ a j.toNatClampNeg v) ha (by rw [g_mkZ hk, g_up_eq]) (fun b hb => g_up_ne hb)] at h1 h2
  exact kk H1 locs1 h1 h2 h3
theorem g_wC {cells slots : Nat} {σ : g_S} {H : Heap} {locs : List Loc} {a b pc idx : Nat} {sp dp n : Int32} {ls : Array Slot} {rest : List Value} (F : g_Fr p l Rm s m args c ad rv D Y A E M d cells slots) (hls : ls.size = g_ml M) (hka : g_kd a = 100) (hkb : g_kd b = 100) (hlk : g_in (.methodLink (g_y M).cls idx arraycopyName) = true) (hr : (rest.map fun v => v.category).sum ≤ 8)
    (h1 : ¬ sp < 0) (h2 : ¬ dp < 0) (h3 : ¬ n < 0) (h4 : sp.toNatClampNeg + n.toNatClampNeg ≤ g_ln a) (h5 : dp.toNatClampNeg + n.toNatClampNeg ≤ g_ln b) (hdg : decode (g_by M) pc = .ok (.invokestatic idx, 3))
    (hP : va_P D vwCl (g_w ad Y σ) H) (hD : va_D A (g_w ad Y σ)) (hS : va_S A s.heap H locs)
    (kk : ∀ (H1 : Heap) (locs1 : List Loc), va_P D vwCl (g_w ad Y (g_cp σ a b sp.toNatClampNeg dp.toNatClampNeg n.toNatClampNeg)) H1 → va_D A (g_w ad Y (g_cp σ a b sp.toNatClampNeg dp.toNatClampNeg n.toNatClampNeg)) → va_S A s.heap H1 locs1 → W p l e Rm s m args below meth c H1 locs1 cells slots Q (F0 m (pc + 3) ls rest)) : W p l e Rm s m args below meth c H locs cells slots Q (F0 m pc ls (.int n :: .int dp :: .ref (ad b) :: .int sp :: .ref (ad a) :: rest)) := by
  obtain ⟨hx, hb, hml, hown, hts, hK, hZ, hA, hroom, hc1, hc2⟩ := F
  have ha : a < g_N := g_kd_lt (by omega)
  have hbn : b < g_N := g_kd_lt (by omega)
  have hw := g_w_at (ad := ad) (Y := Y) (σ := σ) ha
  rw [g_mkI hka] at hw
  have hw2 := g_w_at (ad := ad) (Y := Y) (σ := σ) hbn
  rw [g_mkI hkb] at hw2
  obtain ⟨q1, q2, q3, -⟩ := g_libs
  refine va_copyi (ty := .int) hx hb (hml.trans hls.symm) hown (hts _ (g_in_mem hlk)) (hts _ (g_in_mem q2)) (hts _ (g_in_mem q1)) (hts _ (g_in_mem q3)) hK hP hD hS a b 0 0 hw hw2 rfl rfl rfl h1 h2 h3 h4 h5 (fun _ _ => rfl) (by omega) ?_ hdg (fun H1 locs1 k1 k2 k3 => ?_)
  · have : nativeFrameWords "java/lang/System" "arraycopy" 5 ≤ 40 := by decide +kernel
    omega
  · rw [g_w_set (σ' := g_cp σ a b sp.toNatClampNeg dp.toNatClampNeg n.toNatClampNeg) hbn (by rw [g_mkI hkb, g_cp_eq]) (fun b hb => g_cp_ne hb)] at k1 k2
    exact kk H1 locs1 k1 k2 k3
theorem g_wF {cells slots : Nat} {σ : g_S} {H : Heap} {locs : List Loc} {a ci k pc idx : Nat} {v : Int32} {ls : Array Slot} {rest : List Value} (F : g_Fr p l Rm s m args c ad rv D Y A E M d cells slots) (hk : g_kd a = ci) (hci : ci < 9) (hkn : k < (g_C ci).2.2) (hrf : g_rf ci k = false) (hfin : ((g_C ci).2.1 k).2.2.2 = false) (hty : ((g_C ci).2.1 k).2.2.1 = bif g_bz ci k then "Z" else "I")
    (hlk : g_in (.fieldLink (g_y M).cls idx ((g_C ci).2.1 k).1 ((g_C ci).2.1 k).2.1 ((g_C ci).2.1 k).2.2.1) = true ∨ g_inN (.fieldLinkNest (g_y M).cls idx ((g_C ci).2.1 k).1 ((g_C ci).2.1 k).2.1 ((g_C ci).2.1 k).2.2.1 "DialTown") = true)
    (hn : narrow (bif g_bz ci k then .boolean else .int) (.int v) = .int v) (hdg : decode (g_by M) pc = .ok (.putfield idx, 3))
    (hP : va_P D vwCl (g_w ad Y σ) H) (hD : va_D A (g_w ad Y σ)) (hS : va_S A s.heap H locs)
    (kk : ∀ (H1 : Heap) (locs1 : List Loc), va_P D vwCl (g_w ad Y (g_up σ a k v)) H1 → va_D A (g_w ad Y (g_up σ a k v)) → va_S A s.heap H1 locs1 → W p l e Rm s m args below meth c H1 locs1 cells slots Q (F0 m (pc + 3) ls rest)) : W p l e Rm s m args below meth c H locs cells slots Q (F0 m pc ls (.int v :: .ref (ad a) :: rest)) := by
  obtain ⟨hx, hb, hml, hown, hts, hK, hZ, hA, hroom, hc1, hc2⟩ := F
  have ha : a < g_N := g_kd_lt (by omega)
  have hw := g_w_at (ad := ad) (Y := Y) (σ := σ) ha
  rw [g_mkO hk hci] at hw
  obtain ⟨ty, hty0⟩ := g_C_ty hci
  have hd : parseFieldDescriptor ((g_C ci).2.1 k).2.2.1 = some (bif g_bz ci k then .boolean else .int) := by
    rw [hty]
    cases g_bz ci k
    · exact (by decide +kernel : parseFieldDescriptor "I" = some .int)
    · exact (by decide +kernel : parseFieldDescriptor "Z" = some .boolean)
  have hfit : fits (bif g_bz ci k then .boolean else .int) (.int v) = true := by
    revert hn
    cases g_bz ci k
    · intro _; rfl
    · intro hn; exact g_fitsZ hn
  have hset : ∀ H1 : Heap, (g_w ad Y σ).set a (ad a, .inr (ci, ((List.range (g_C ci).2.2).map (fun k => bif g_rf ci k then Value.ref (ad (g_tg ci k a)) else .int (σ a k))).set k (.int v))) = g_w ad Y (g_up σ a k v) := by
    intro _
    refine g_w_set ha ?_ (fun b hb => g_up_ne hb)
    rw [g_mkO hk hci, g_up_eq]
    congr 2
    apply List.ext_getElem?
    intro i
    by_cases hi : i < (g_C ci).2.2
    · by_cases hik : i = k
      · subst hik
        rw [List.getElem?_set_self (by rw [List.length_map, List.length_range]; exact hi), List.getElem?_map, List.getElem?_range hi, Option.map_some, hrf]
        unfold upd
        rw [if_pos rfl]; rfl
      · rw [List.getElem?_set_ne (fun q => hik q.symm), List.getElem?_map, List.getElem?_map, List.getElem?_range hi, Option.map_some, Option.map_some]
        unfold upd
        rw [if_neg hik]
    · rw [List.getElem?_eq_none (by rw [List.length_set, List.length_map, List.length_range]; omega), List.getElem?_eq_none (by rw [List.length_map, List.length_range]; omega)]
  rcases hlk with hlk | hlk
  · refine va_put (C := (g_C ci).1) (T := (g_C ci).2.1) (N := (g_C ci).2.2) hx hb hts (g_lays hci) ty hty0 (g_C_nm hci) hown hK hP hD hS a hw (g_C_at hci) k hkn (hts _ (g_in_mem hlk)) (fun _ h => h) hfin hd hn hfit (by rw [List.length_map, List.length_range]; exact hkn) hdg (fun H1 locs1 k1 k2 k3 => ?_)
    rw [hset H1] at k1 k2
    exact kk H1 locs1 k1 k2 k3
  · refine va_putN (C := (g_C ci).1) (T := (g_C ci).2.1) (N := (g_C ci).2.2) (host := "DialTown") hx hb hts (g_lays hci) ty hty0 (g_C_nm hci) hown hK hP hD hS a hw (g_C_at hci) k hkn ((hZ.1 _ (g_inN_mem hlk)).use rfl) (fun _ h => h) hfin hd hn hfit (by rw [List.length_map, List.length_range]; exact hkn) hdg (fun H1 locs1 k1 k2 k3 => ?_)
    rw [hset H1] at k1 k2
    exact kk H1 locs1 k1 k2 k3
theorem g_rF {cells slots : Nat} {σ : g_S} {H : Heap} {locs : List Loc} {a ci k pc idx : Nat} {ls : Array Slot} {rest : List Value} (F : g_Fr p l Rm s m args c ad rv D Y A E M d cells slots) (hk : g_kd a = ci) (hci : ci < 9) (hkn : k < (g_C ci).2.2)
    (hlk : g_in (.fieldLink (g_y M).cls idx ((g_C ci).2.1 k).1 ((g_C ci).2.1 k).2.1 ((g_C ci).2.1 k).2.2.1) = true ∨ g_inN (.fieldLinkNest (g_y M).cls idx ((g_C ci).2.1 k).1 ((g_C ci).2.1 k).2.1 ((g_C ci).2.1 k).2.2.1 "DialTown") = true)
    (hdg : decode (g_by M) pc = .ok (.getfield idx, 3)) (hP : va_P D vwCl (g_w ad Y σ) H)
    (kk : W p l e Rm s m args below meth c H locs cells slots Q (F0 m (pc + 3) ls (g_cv ad rv (bif g_rf ci k then .ref (g_tg ci k a) else .int (σ a k)) :: rest))) : W p l e Rm s m args below meth c H locs cells slots Q (F0 m pc ls (.ref (ad a) :: rest)) := by
  obtain ⟨hx, hb, hml, hown, hts, hK, hZ, hA, hroom, hc1, hc2⟩ := F
  have ha : a < g_N := g_kd_lt (by omega)
  have hw := g_w_at (ad := ad) (Y := Y) (σ := σ) ha
  rw [g_mkO hk hci] at hw
  have hv : ((List.range (g_C ci).2.2).map (fun k => bif g_rf ci k then Value.ref (ad (g_tg ci k a)) else .int (σ a k)))[k]? = some (g_cv ad rv (bif g_rf ci k then .ref (g_tg ci k a) else .int (σ a k))) := by
    rw [List.getElem?_map, List.getElem?_range hkn, Option.map_some]
    cases g_rf ci k <;> rfl
  rcases hlk with hlk | hlk
  · exact va_get (C := (g_C ci).1) (T := (g_C ci).2.1) (N := (g_C ci).2.2) hx hb hts (g_lays hci) hown hK hP a hw (g_C_at hci) k hkn (hts _ (g_in_mem hlk)) (fun _ h => h) hv hdg kk
  · exact va_getN (C := (g_C ci).1) (T := (g_C ci).2.1) (N := (g_C ci).2.2) (host := "DialTown") hx hb hts (g_lays hci) hown hK hP a hw (g_C_at hci) k hkn ((hZ.1 _ (g_inN_mem hlk)).use rfl) (fun _ h => h) hv hdg kk
theorem g_rR {cells slots : Nat} {σ : g_S} {H : Heap} {locs : List Loc} {a pc : Nat} {j : Int32} {ls : Array Slot} {rest : List Value} (F : g_Fr p l Rm s m args c ad rv D Y A E M d cells slots) (hk : g_kd a = 102 ∨ g_kd a = 103) (hj : vp_in j (g_ln a))
    (hdg : decode (g_by M) pc = .ok (.aaload, 1)) (hP : va_P D vwCl (g_w ad Y σ) H)
    (kk : W p l e Rm s m args below meth c H locs cells slots Q (F0 m (pc + 1) ls (.ref (ad (g_ta a j.toNatClampNeg)) :: rest))) : W p l e Rm s m args below meth c H locs cells slots Q (F0 m pc ls (.int j :: .ref (ad a) :: rest)) := by
  obtain ⟨hx, hb, hml, hown, hts, hK, hZ, hA, hroom, hc1, hc2⟩ := F
  have ha : a < g_N := g_kd_lt (by omega)
  have hw := g_w_at (ad := ad) (Y := Y) (σ := σ) ha
  rcases hk with hk | hk
  · rw [g_mkT hk] at hw
    exact va_aldq hx hb hK hP a 2 hw rfl hj hdg kk
  · rw [g_mkR hk] at hw
    have hlt : j.toNatClampNeg < g_ln a := Nat.not_le.mp fun q => hj (Or.inr q)
    refine W.aald (v := va_rf (some (ad (g_ta a j.toNatClampNeg)))) (ty := .array .int) hx hb (hP a _ hw) ((hK.2 3 _ rfl).1 (g_ln a) (fun j => va_rf (some (ad (g_ta a j))))) rfl (fun q => by cases q) ?_ ?_ rfl rfl hdg kk
    · show ¬ (j < 0 ∨ (arrV _ _ _).slots.size ≤ _)
      rw [arrV_size]; exact hj
    · show (arrV _ _ _).slots[_]? = _
      rw [arrV_read _ _ hlt]
end GV
end
section
section GM
variable {p : Program} {l : Launch} {e : Env} {Rm : Room} {s : State} {m : MethodId} {args : Array Value} {below : List Frame} {meth : Method} {c : Code} {Q : State → Prop}
variable {ad : Nat → Nat} {rv : Nat → Value} {D : va_G} {Y : g_Y} {A : Nat → Prop} {E : g_E} {M d : Nat}
set_option maxHeartbeats 8000000 in
theorem g_closed {cells slots pc n : Nat} {i : Instr} {x : g_X} {K : g_K} {O : g_O} {R : g_R} {L : g_L} {st : List Value} {σ : g_S} (F : g_Fr p l Rm s m args c ad rv D Y A E M d cells slots) (hall : (g_cl M).all (g_okI M) = true) (hom : ∀ M', 0 < M' → M' < 194 → g_okM M' = true)
    (hO : ∀ M' as σ R', 0 < M' → M' < 194 → Nat.ble (g_slots as).length (g_ml M') = true → O M' as σ R' → ∃ d', d = d' + 1 ∧ g_Con E ad rv D Y l d' M' as σ R') (hret : g_Ret p l e Rm s m args below meth c Q ad D Y A M cells slots R)
    (hQ : ∀ pc L st σ, K pc L st σ → g_P p l e Rm s m args below meth c Q ad rv D Y A (g_ml M) cells slots pc L st σ) (hcd : g_cd M pc = some (i, n, x)) (hst : g_step E O g_mm K R i n x pc L st σ) :
    g_P p l e Rm s m args below meth c Q ad rv D Y A (g_ml M) cells slots pc L st σ := by
  intro H locs ls hL hP hD hS
  have hok := List.all_eq_true.mp hall _ (g_lk_mem hcd)
  unfold g_okI at hok
  rw [Bool.and_eq_true] at hok
  obtain ⟨hdg0, hox⟩ := hok
  have hdg := of_decide_eq_true hdg0
  clear hdg0
  dsimp only at hdg hox
  have F' := F
  obtain ⟨hx, hb, hml, hown, hts, hK, hZ, hA, hroom, hc1, hc2⟩ := F
  have hrv := g_rvk hZ.2.2.2.2.2.2
  have go : ∀ {pc L st σ H locs ls}, K pc L st σ → g_H ad rv ls (g_ml M) L → va_P D vwCl (g_w ad Y σ) H → va_D A (g_w ad Y σ) → va_S A s.heap H locs → W p l e Rm s m args below meth c H locs cells slots Q (F0 m pc ls (st.map (g_cv ad rv))) := fun h h1 h2 h3 h4 => hQ _ _ _ _ h _ _ _ h1 h2 h3 h4
  cases i with
  | iconst v =>
    simp only [g_okx, Bool.and_eq_true, beq_iff_eq, decide_eq_true_eq] at hox
    obtain ⟨rfl, hv⟩ := hox
    exact lv_iconst hx hb hdg hv (go hst hL hP hD hS)
  | bipush v =>
    simp only [g_okx, Bool.and_eq_true, beq_iff_eq, decide_eq_true_eq] at hox
    obtain ⟨rfl, hv⟩ := hox
    exact lv_bipush hx hb hdg hv (go hst hL hP hD hS)
  | sipush v =>
    simp only [g_okx, Bool.and_eq_true, beq_iff_eq, decide_eq_true_eq] at hox
    obtain ⟨rfl, hv⟩ := hox
    exact lv_sipush hx hb hdg hv (go hst hL hP hD hS)
  | lconst v =>
    simp only [g_okx, Bool.and_eq_true, beq_iff_eq, decide_eq_true_eq] at hox
    obtain ⟨rfl, hv⟩ := hox
    exact lv_lconst hx hb hdg hv (go hst hL hP hD hS)
  | ldc k =>
    obtain ⟨x1, x2, x3, x4, x5⟩ := x
    cases x2 with
    | zero =>
      simp only [g_okx, Bool.and_eq_true, beq_iff_eq, decide_eq_true_eq] at hox
      obtain ⟨rfl, hv⟩ := hox
      exact lv_ldc hx hb hown (hts _ (g_in_mem hv)) hdg (go hst hL hP hD hS)
    | succ x2 =>
      simp only [g_okx, Bool.and_eq_true, beq_iff_eq, decide_eq_true_eq] at hox
      obtain ⟨rfl, ⟨⟨⟨h1, h2⟩, h3⟩, h4⟩⟩ := hox
      obtain ⟨a, b, e1, e2, g1, -⟩ := hZ.2.2.2.2.2.1 (x1 - 20) (by omega)
      rw [show 20 + (x1 - 20) = x1 by omega] at e1
      have h5 := go hst hL hP hD hS
      rw [List.map_cons, show g_cv ad rv (.retAddr x1) = .ref a from e1] at h5
      rw [h4] at g1
      exact va_ldcS (own := "DialTown$Reader") hx hb (by rw [← h3]; exact hown) g1 hdg h5
  | ldc_w k =>
    simp only [g_okx, Bool.and_eq_true, beq_iff_eq, decide_eq_true_eq] at hox
    obtain ⟨rfl, hv⟩ := hox
    exact lv_ldcw hx hb hown (hts _ (g_in_mem hv)) hdg (go hst hL hP hD hS)
  | ldc2_w k =>
    simp only [g_okx, Bool.and_eq_true, beq_iff_eq, decide_eq_true_eq] at hox
    obtain ⟨rfl, hv⟩ := hox
    exact lv_ldc2 hx hb hown (hts _ (g_in_mem hv)) hdg (go hst hL hP hD hS)
  | iload k =>
    simp only [g_okx, beq_iff_eq] at hox
    subst hox
    obtain ⟨v, h1, h2⟩ := g_ild_i hst
    exact lv_iload hx hb hdg (hL.one h1) (go h2 hL hP hD hS)
  | iload_n k =>
    simp only [g_okx, beq_iff_eq] at hox
    subst hox
    obtain ⟨v, h1, h2⟩ := g_ild_i hst
    exact lv_iload_n hx hb hdg rfl (hL.one h1) (go h2 hL hP hD hS)
  | lload k =>
    simp only [g_okx, beq_iff_eq] at hox
    subst hox
    obtain ⟨v, h1, h2⟩ := g_lld_i hst
    exact lv_lload hx hb hdg (hL.one h1) (go h2 hL hP hD hS)
  | lload_n k =>
    simp only [g_okx, beq_iff_eq] at hox
    subst hox
    obtain ⟨v, h1, h2⟩ := g_lld_i hst
    exact lv_lload_n hx hb hdg rfl (hL.one h1) (go h2 hL hP hD hS)
  | aload k =>
    simp only [g_okx, beq_iff_eq] at hox
    subst hox
    rcases g_ald_i hst with ⟨v, h1, h2⟩ | ⟨v, h1, h2⟩
    · exact lv_aload hx hb hdg (hL.one h1) (go h2 hL hP hD hS)
    · have h3 := hL.one h1
      have h4 := go h2 hL hP hD hS
      change ls[k]? = some (.val (rv v)) at h3
      change W p l e Rm s m args below meth c H locs cells slots Q (F0 m (pc + 2) ls (rv v :: st.map (g_cv ad rv))) at h4
      rcases hZ.2.2.2.2.2.2 v with ⟨b, hb2⟩ | hb2
      · rw [hb2] at h3 h4
        exact lv_aload hx hb hdg h3 h4
      · rw [hb2] at h3 h4
        exact lv_aloadN hx hb hdg h3 h4
  | aload_n k =>
    simp only [g_okx, beq_iff_eq] at hox
    subst hox
    rcases g_ald_i hst with ⟨v, h1, h2⟩ | ⟨v, h1, h2⟩
    · exact lv_aload_n hx hb hdg rfl (hL.one h1) (go h2 hL hP hD hS)
    · have h3 := hL.one h1
      have h4 := go h2 hL hP hD hS
      change ls[k.val]? = some (.val (rv v)) at h3
      change W p l e Rm s m args below meth c H locs cells slots Q (F0 m (pc + 1) ls (rv v :: st.map (g_cv ad rv))) at h4
      rcases hZ.2.2.2.2.2.2 v with ⟨b, hb2⟩ | hb2
      · rw [hb2] at h3 h4
        exact lv_aload_n hx hb hdg rfl h3 h4
      · rw [hb2] at h3 h4
        exact lv_aload_nN hx hb hdg rfl h3 h4
  | istore k =>
    simp only [g_okx, Bool.and_eq_true, beq_iff_eq, decide_eq_true_eq] at hox
    obtain ⟨rfl, hk⟩ := hox
    obtain ⟨v, r, rfl, h2⟩ := g_ist_i hst
    exact lv_istore hx hb hdg hL.has hk rfl (fun ls' h' => go h2 (g_H.st1 hrv rfl h') hP hD hS)
  | istore_n k =>
    simp only [g_okx, Bool.and_eq_true, beq_iff_eq, decide_eq_true_eq] at hox
    obtain ⟨rfl, hk⟩ := hox
    obtain ⟨v, r, rfl, h2⟩ := g_ist_i hst
    exact lv_istore_n hx hb hdg rfl hL.has hk rfl (fun ls' h' => go h2 (g_H.st1 hrv rfl h') hP hD hS)
  | lstore k =>
    simp only [g_okx, Bool.and_eq_true, beq_iff_eq, decide_eq_true_eq] at hox
    obtain ⟨rfl, hk⟩ := hox
    obtain ⟨v, r, rfl, h2⟩ := g_lst_i hst
    exact lv_lstore hx hb hdg hL.has hk rfl (fun ls' h' => go h2 (g_H.st2 hrv rfl h') hP hD hS)
  | lstore_n k =>
    simp only [g_okx, Bool.and_eq_true, beq_iff_eq, decide_eq_true_eq] at hox
    obtain ⟨rfl, hk⟩ := hox
    obtain ⟨v, r, rfl, h2⟩ := g_lst_i hst
    exact lv_lstore_n hx hb hdg rfl hL.has hk rfl (fun ls' h' => go h2 (g_H.st2 hrv rfl h') hP hD hS)
  | astore k =>
    simp only [g_okx, Bool.and_eq_true, beq_iff_eq, decide_eq_true_eq] at hox
    obtain ⟨rfl, hk⟩ := hox
    obtain ⟨v, r, rfl, h2⟩ := g_ast_i hst
    exact lv_astore hx hb hdg hL.has hk rfl (fun ls' h' => go h2 (g_H.st1 hrv rfl h') hP hD hS)
  | astore_n k =>
    simp only [g_okx, Bool.and_eq_true, beq_iff_eq, decide_eq_true_eq] at hox
    obtain ⟨rfl, hk⟩ := hox
    obtain ⟨v, r, rfl, h2⟩ := g_ast_i hst
    exact lv_astore_n hx hb hdg rfl hL.has hk rfl (fun ls' h' => go h2 (g_H.st1 hrv rfl h') hP hD hS)
  | iinc k v =>
    simp only [g_okx, Bool.and_eq_true, beq_iff_eq, decide_eq_true_eq] at hox
    obtain ⟨⟨rfl, hk⟩, hv⟩ := hox
    unfold g_step at hst
    dsimp only at hst
    split at hst
    · rename_i w hw
      have hm := g_en_mem (ad := ad) (rv := rv) (L := L) (q := (k, .int w)) |>.mpr ⟨_, hw, rfl⟩
      obtain ⟨z, hz⟩ := List.getElem?_of_mem hm
      exact lv_iinc hx hb hdg hL.has hz (by rw [hv]) hk rfl (fun ls' h' => go hst (g_H.st1 hrv rfl h') hP hD hS)
    · exact hst.elim
  | iadd =>
    simp only [g_okx, beq_iff_eq] at hox
    subst hox
    obtain ⟨y, x, r, rfl, h2⟩ := g_i2_i hst
    exact lv_iadd hx hb hdg (go h2 hL hP hD hS)
  | isub =>
    simp only [g_okx, beq_iff_eq] at hox
    subst hox
    obtain ⟨y, x, r, rfl, h2⟩ := g_i2_i hst
    exact lv_isub hx hb hdg (go h2 hL hP hD hS)
  | imul =>
    simp only [g_okx, beq_iff_eq] at hox
    subst hox
    obtain ⟨y, x, r, rfl, h2⟩ := g_i2_i hst
    exact lv_imul hx hb hdg (go h2 hL hP hD hS)
  | iand =>
    simp only [g_okx, beq_iff_eq] at hox
    subst hox
    obtain ⟨y, x, r, rfl, h2⟩ := g_i2_i hst
    exact lv_iand hx hb hdg (go h2 hL hP hD hS)
  | ior =>
    simp only [g_okx, beq_iff_eq] at hox
    subst hox
    obtain ⟨y, x, r, rfl, h2⟩ := g_i2_i hst
    exact lv_ior hx hb hdg (go h2 hL hP hD hS)
  | ixor =>
    simp only [g_okx, beq_iff_eq] at hox
    subst hox
    obtain ⟨y, x, r, rfl, h2⟩ := g_i2_i hst
    exact lv_ixor hx hb hdg (go h2 hL hP hD hS)
  | ishl =>
    simp only [g_okx, beq_iff_eq] at hox
    subst hox
    obtain ⟨y, x, r, rfl, h2⟩ := g_i2_i hst
    exact lv_ishl hx hb hdg (go h2 hL hP hD hS)
  | ishr =>
    simp only [g_okx, beq_iff_eq] at hox
    subst hox
    obtain ⟨y, x, r, rfl, h2⟩ := g_i2_i hst
    exact lv_ishr hx hb hdg (go h2 hL hP hD hS)
  | ineg =>
    simp only [g_okx, beq_iff_eq] at hox
    subst hox
    obtain ⟨x, r, rfl, h2⟩ := g_i1_i hst
    exact lv_ineg hx hb hdg (go h2 hL hP hD hS)
  | i2b =>
    simp only [g_okx, beq_iff_eq] at hox
    subst hox
    obtain ⟨x, r, rfl, h2⟩ := g_i1_i hst
    exact lv_i2b hx hb hdg rfl (go h2 hL hP hD hS)
  | i2s =>
    simp only [g_okx, beq_iff_eq] at hox
    subst hox
    obtain ⟨x, r, rfl, h2⟩ := g_i1_i hst
    exact lv_i2s hx hb hdg rfl (go h2 hL hP hD hS)
  | i2c =>
    simp only [g_okx, beq_iff_eq] at hox
    subst hox
    obtain ⟨x, r, rfl, h2⟩ := g_i1_i hst
    exact lv_i2c hx hb hdg rfl (go h2 hL hP hD hS)
  | ladd =>
    simp only [g_okx, beq_iff_eq] at hox
    subst hox
    obtain ⟨y, x, r, rfl, h2⟩ := g_l2_i hst
    exact lv_ladd hx hb hdg (go h2 hL hP hD hS)
  | lmul =>
    simp only [g_okx, beq_iff_eq] at hox
    subst hox
    obtain ⟨y, x, r, rfl, h2⟩ := g_l2_i hst
    exact lv_lmul hx hb hdg (go h2 hL hP hD hS)
  | land =>
    simp only [g_okx, beq_iff_eq] at hox
    subst hox
    obtain ⟨y, x, r, rfl, h2⟩ := g_l2_i hst
    exact lv_land hx hb hdg (go h2 hL hP hD hS)
  | lor =>
    simp only [g_okx, beq_iff_eq] at hox
    subst hox
    obtain ⟨y, x, r, rfl, h2⟩ := g_l2_i hst
    exact lv_lor hx hb hdg (go h2 hL hP hD hS)
  | lshl =>
    simp only [g_okx, beq_iff_eq] at hox
    subst hox
    obtain ⟨y, x, r, rfl, h2⟩ := g_ls_i hst
    exact lv_lshl hx hb hdg rfl (go h2 hL hP hD hS)
  | lshr =>
    simp only [g_okx, beq_iff_eq] at hox
    subst hox
    obtain ⟨y, x, r, rfl, h2⟩ := g_ls_i hst
    exact lv_lshr hx hb hdg rfl (go h2 hL hP hD hS)
  | lushr =>
    simp only [g_okx, beq_iff_eq] at hox
    subst hox
    obtain ⟨y, x, r, rfl, h2⟩ := g_ls_i hst
    exact lv_lushr hx hb hdg rfl (go h2 hL hP hD hS)
  | idiv =>
    simp only [g_okx, beq_iff_eq] at hox
    subst hox
    unfold g_step at hst
    dsimp only at hst
    split at hst
    · exact lv_idiv hx hb hdg hst.1 (go hst.2 hL hP hD hS)
    · exact hst.elim
  | irem =>
    simp only [g_okx, beq_iff_eq] at hox
    subst hox
    unfold g_step at hst
    dsimp only at hst
    split at hst
    · exact lv_irem hx hb hdg hst.1 (go hst.2 hL hP hD hS)
    · exact hst.elim
  | lrem =>
    simp only [g_okx, beq_iff_eq] at hox
    subst hox
    unfold g_step at hst
    dsimp only at hst
    split at hst
    · exact lv_lrem hx hb hdg hst.1 (go hst.2 hL hP hD hS)
    · exact hst.elim
  | i2l =>
    simp only [g_okx, beq_iff_eq] at hox
    subst hox
    unfold g_step at hst
    dsimp only at hst
    split at hst
    · exact lv_i2l hx hb hdg rfl (go hst hL hP hD hS)
    · exact hst.elim
  | l2i =>
    simp only [g_okx, beq_iff_eq] at hox
    subst hox
    unfold g_step at hst
    dsimp only at hst
    split at hst
    · exact lv_l2i hx hb hdg rfl (go hst hL hP hD hS)
    · exact hst.elim
  | lcmp =>
    simp only [g_okx, beq_iff_eq] at hox
    subst hox
    unfold g_step at hst
    dsimp only at hst
    split at hst
    · exact W.lcmp hx hb hdg (go hst hL hP hD hS)
    · exact hst.elim
  | dup =>
    simp only [g_okx, beq_iff_eq] at hox
    subst hox
    unfold g_step at hst
    dsimp only at hst
    split at hst
    · exact lv_dup hx hb hdg (by rw [g_cat hrv]; exact hst.1) (go hst.2 hL hP hD hS)
    · exact hst.elim
  | dup2 =>
    simp only [g_okx, beq_iff_eq] at hox
    subst hox
    unfold g_step at hst
    dsimp only at hst
    split at hst
    · exact lv_dup2_11 hx hb hdg (by rw [g_cat hrv]; exact hst.1) (by rw [g_cat hrv]; exact hst.2.1) (go hst.2.2 hL hP hD hS)
    · exact hst.elim
  | pop =>
    simp only [g_okx, beq_iff_eq] at hox
    subst hox
    unfold g_step at hst
    dsimp only at hst
    split at hst
    · exact lv_pop hx hb hdg (by rw [g_cat hrv]; exact hst.1) (go hst.2 hL hP hD hS)
    · exact hst.elim
  | ifCond cc o =>
    simp only [g_okx, Bool.and_eq_true, beq_iff_eq, decide_eq_true_eq] at hox
    obtain ⟨rfl, ht⟩ := hox
    unfold g_step at hst
    dsimp only at hst
    split at hst
    · obtain ⟨h1, h2⟩ := hst
      cases cc with
      | eq => exact lv_if_eq hx hb hdg ht (fun q => go (h1 q) hL hP hD hS) (fun q => go (h2 q) hL hP hD hS)
      | ne => exact lv_if_ne hx hb hdg ht (fun q => go (h1 q) hL hP hD hS) (fun q => go (h2 (fun z => z q)) hL hP hD hS)
      | lt => exact lv_if_lt hx hb hdg ht (fun q => go (h1 q) hL hP hD hS) (fun q => go (h2 q) hL hP hD hS)
      | ge => exact lv_if_ge hx hb hdg ht (fun q => go (h1 q) hL hP hD hS) (fun q => go (h2 q) hL hP hD hS)
      | gt => exact lv_if_gt hx hb hdg ht (fun q => go (h1 q) hL hP hD hS) (fun q => go (h2 q) hL hP hD hS)
      | le => exact lv_if_le hx hb hdg ht (fun q => go (h1 q) hL hP hD hS) (fun q => go (h2 q) hL hP hD hS)
    · exact hst.elim
  | if_icmp cc o =>
    simp only [g_okx, Bool.and_eq_true, beq_iff_eq, decide_eq_true_eq] at hox
    obtain ⟨rfl, ht⟩ := hox
    unfold g_step at hst
    dsimp only at hst
    split at hst
    · obtain ⟨h1, h2⟩ := hst
      cases cc with
      | eq => exact lv_icmp_eq hx hb hdg ht (fun q => go (h1 q) hL hP hD hS) (fun q => go (h2 q) hL hP hD hS)
      | ne => exact lv_icmp_ne hx hb hdg ht (fun q => go (h1 q) hL hP hD hS) (fun q => go (h2 (fun z => z q)) hL hP hD hS)
      | lt => exact lv_icmp_lt hx hb hdg ht (fun q => go (h1 q) hL hP hD hS) (fun q => go (h2 q) hL hP hD hS)
      | ge => exact lv_icmp_ge hx hb hdg ht (fun q => go (h1 q) hL hP hD hS) (fun q => go (h2 q) hL hP hD hS)
      | gt => exact lv_icmp_gt hx hb hdg ht (fun q => go (h1 q) hL hP hD hS) (fun q => go (h2 q) hL hP hD hS)
      | le => exact lv_icmp_le hx hb hdg ht (fun q => go (h1 q) hL hP hD hS) (fun q => go (h2 q) hL hP hD hS)
    · exact hst.elim
  | goto o =>
    simp only [g_okx, Bool.and_eq_true, beq_iff_eq, decide_eq_true_eq] at hox
    obtain ⟨rfl, ht⟩ := hox
    exact lv_goto hx hb hdg ht (go hst hL hP hD hS)
  | tableswitch dd lo hi offs =>
    simp only [g_okx, Bool.and_eq_true, beq_iff_eq, decide_eq_true_eq] at hox
    obtain ⟨⟨⟨⟨h1, h2⟩, h3⟩, h4⟩, h5⟩ := hox
    unfold g_step at hst
    dsimp only at hst
    split at hst
    · rename_i v r
      obtain ⟨k1, k2⟩ := hst
      by_cases ho : v.toInt < lo ∨ hi < v.toInt
      · exact lv_tableOut hx hb hdg ho h1 (go (k1 ho) hL hP hD hS)
      · have hlen : offs.toList.length = x.2.2.2.2.length := by
          have := congrArg List.length h5
          rw [List.length_map, List.length_map] at this
          exact this
        obtain ⟨j, hj⟩ : ∃ j : Nat, v.toInt = lo + j := ⟨(v.toInt - lo).toNat, by omega⟩
        have hjl : j < x.2.2.2.2.length := by omega
        obtain ⟨t, ht⟩ : ∃ t, x.2.2.2.2[j]? = some t := ⟨_, List.getElem?_eq_getElem hjl⟩
        obtain ⟨o, hoo⟩ : ∃ o, offs.toList[j]? = some o := ⟨_, List.getElem?_eq_getElem (by omega)⟩
        have ho2 : (pc : Int) + o = (t : Int) := by
          have h6 := congrArg (fun z => z[j]?) h5
          simp only [List.getElem?_map, hoo, ht, Option.map_some] at h6
          exact Option.some.inj h6
        have hv : v = Int32.ofNat (x.2.1 + j) := by
          apply Int32.toInt_inj.mp
          rw [hj, h2]
          have := nI_toInt (n := x.2.1 + j) (by omega)
          rw [show Int32.ofNat (x.2.1 + j) = nI (x.2.1 + j) from rfl, this]
          omega
        refine lv_tableIn (off := o) (tgt := t) hx hb hdg (by omega) (by omega) ?_ ho2 (go (g_sw_i k2 ht hv) hL hP hD hS)
        rw [show (v.toInt - lo).toNat = j by omega, ← Array.getElem?_toList]
        exact hoo
    · exact hst.elim
  | getstatic k =>
    obtain ⟨x1, x2, x3, x4, x5⟩ := x
    cases x5 with
    | nil =>
      simp only [g_okx, Bool.and_eq_true, Bool.or_eq_true, beq_iff_eq, decide_eq_true_eq] at hox
      obtain ⟨rfl, h⟩ := hox
      rcases h with ⟨h1, h2⟩ | ⟨h1, h2⟩
      · exact va_gets hx hb (hZ.2.1 x1 h1) hS hown (hts _ (g_in_mem h2)) (fun _ h => h) hdg (go hst hL hP hD hS)
      · subst h1
        exact va_gets hx hb hZ.2.2.1 hS hown (hts _ (g_in_mem h2)) (fun _ h => h) hdg (go hst hL hP hD hS)
    | cons x5 x6 =>
      simp only [g_okx, Bool.and_eq_true, beq_iff_eq, decide_eq_true_eq] at hox
      obtain ⟨rfl, h1, h2⟩ := hox
      have h3 := go hst hL hP hD hS
      rw [List.map_cons] at h3
      change W p l e Rm s m args below meth c H locs cells slots Q (F0 m (pc + 3) ls (.int x3 :: st.map (g_cv ad rv))) at h3
      rw [h1] at h3
      exact va_gets hx hb hZ.2.2.2.1 hS hown (hts _ (g_in_mem h2)) (fun _ h => h) hdg h3
  | getfield k =>
    simp only [g_okx, Bool.and_eq_true, Bool.or_eq_true, beq_iff_eq, decide_eq_true_eq] at hox
    obtain ⟨rfl, h⟩ := hox
    unfold g_step at hst
    dsimp only at hst
    split at hst
    · rename_i a r
      obtain ⟨hk, hst⟩ := hst
      rcases h with ⟨⟨h1, h2⟩, h3⟩ | ⟨h1, -⟩
      · exact g_rF F' hk h1 h2 h3 hdg hP (go hst hL hP hD hS)
      · exfalso
        rw [h1] at hk
        have h4 := g_kd_9 a
        exact h4 hk
    · rename_i q r
      obtain ⟨hx1, hq1, hq2, hst⟩ := hst
      rcases h with ⟨⟨h1, h2⟩, h3⟩ | ⟨h1, h⟩
      · omega
      · obtain ⟨a, b, e1, e2, g1, g2, g3, g4, g5⟩ := hZ.2.2.2.2.2.1 (q - 20) (by omega)
        rw [show 20 + (q - 20) = q by omega] at e1
        have h5 := go hst hL hP hD hS
        have hgoal : W p l e Rm s m args below meth c H locs cells slots Q (F0 m pc ls (.ref a :: r.map (g_cv ad rv))) := by
          rcases h with ⟨h6, h7⟩ | ⟨h6, h7⟩
          · rw [h6] at h5
            change W p l e Rm s m args below meth c H locs cells slots Q (F0 m (pc + 3) ls (rv (q - 10) :: r.map (g_cv ad rv))) at h5
            rw [show q - 10 = 10 + (q - 20) by omega, e2] at h5
            exact vk_getf hx hb g4 hS hown (hts _ (g_in_mem h7)) (fun _ h => h) hdg h5
          · rw [h6] at h5
            exact vk_getf hx hb g3 hS hown (hts _ (g_in_mem h7)) (fun _ h => h) hdg h5
        rw [List.map_cons, show g_cv ad rv (.retAddr q) = .ref a from e1]
        exact hgoal
    · exact hst.elim
  | putfield k =>
    simp only [g_okx, Bool.and_eq_true, Bool.or_eq_true, Bool.not_eq_true', beq_iff_eq, decide_eq_true_eq] at hox
    obtain ⟨⟨⟨⟨⟨⟨rfl, h1⟩, h2⟩, h3⟩, h4⟩, h5⟩, h6⟩ := hox
    unfold g_step at hst
    dsimp only at hst
    split at hst
    · obtain ⟨hk, hn, hst⟩ := hst
      exact g_wF F' hk h1 h2 h3 h4 h5 h6 hn hdg hP hD hS (fun H1 locs1 k1 k2 k3 => go hst hL k1 k2 k3)
    · exact hst.elim
  | iaload =>
    simp only [g_okx, beq_iff_eq] at hox
    subst hox
    unfold g_step at hst
    dsimp only at hst
    split at hst
    · rename_i j a r
      obtain ⟨mm, hk, rfl, hj, hst⟩ := hst
      have ha : a < g_N := g_kd_lt (by omega)
      have hw := g_w_at (ad := ad) (Y := Y) (σ := σ) ha
      rw [g_mkI hk] at hw
      exact va_iald hx hb hK hP a 0 hw rfl hj hdg (go hst hL hP hD hS)
    · rename_i j q r
      obtain ⟨hq, hj, hst⟩ := hst
      obtain ⟨b, e1, ht⟩ := hZ.2.2.2.2.1 q hq
      rw [List.map_cons, List.map_cons, show g_cv ad rv (.retAddr q) = .ref b from e1]
      exact va_ti hx hb ht hS hj rfl hdg (go hst hL hP hD hS)
    · exact hst.elim
  | baload =>
    simp only [g_okx, beq_iff_eq] at hox
    subst hox
    unfold g_step at hst
    dsimp only at hst
    split at hst
    · rename_i j a r
      obtain ⟨mm, hk, rfl, hj, hst⟩ := hst
      have ha : a < g_N := g_kd_lt (by omega)
      have hw := g_w_at (ad := ad) (Y := Y) (σ := σ) ha
      rw [g_mkZ hk] at hw
      exact va_zald hx hb hK hP a 1 hw rfl hj hdg (go hst hL hP hD hS)
    · rename_i j q r
      obtain ⟨hq, hq2, hj, hst⟩ := hst
      obtain ⟨a, b, e1, e2, g1, g2, g3, g4, g5⟩ := hZ.2.2.2.2.2.1 (q - 10) (by omega)
      rw [show 10 + (q - 10) = q by omega] at e2 g5
      rw [List.map_cons, List.map_cons, show g_cv ad rv (.retAddr q) = .ref b from e2]
      exact va_tb hx hb g5 hS hj rfl hdg (go hst hL hP hD hS)
    · exact hst.elim
  | aaload =>
    simp only [g_okx, beq_iff_eq] at hox
    subst hox
    unfold g_step at hst
    dsimp only at hst
    split at hst
    · obtain ⟨mm, hk, rfl, hj, hst⟩ := hst
      exact g_rR F' hk hj hdg hP (go hst hL hP hD hS)
    · exact hst.elim
  | arraylength =>
    simp only [g_okx, beq_iff_eq] at hox
    subst hox
    unfold g_step at hst
    dsimp only at hst
    split at hst
    · rename_i a r
      obtain ⟨mm, hk, hk2, rfl, hst⟩ := hst
      have ha : a < g_N := g_kd_lt (by omega)
      have hw := g_w_at (ad := ad) (Y := Y) (σ := σ) ha
      rcases (show g_kd a = 100 ∨ g_kd a = 101 by omega) with q | q
      · rw [g_mkI q] at hw
        exact va_alen hx hb hK hP a 0 hw rfl rfl hdg (go hst hL hP hD hS)
      · rw [g_mkZ q] at hw
        exact va_alen hx hb hK hP a 1 hw rfl rfl hdg (go hst hL hP hD hS)
    · rename_i q r
      obtain ⟨hq, hst⟩ := hst
      have hh : (q < 6 ∨ q = 99) ∨ (10 ≤ q ∧ q < 18) := by omega
      rcases hh with hq | hq
      · obtain ⟨b, e1, ht⟩ := hZ.2.2.2.2.1 q hq
        rw [List.map_cons, show g_cv ad rv (.retAddr q) = .ref b from e1]
        exact va_tlen hx hb ht hS rfl hdg (go hst hL hP hD hS)
      · obtain ⟨a, b, e1, e2, g1, g2, g3, g4, g5⟩ := hZ.2.2.2.2.2.1 (q - 10) (by omega)
        rw [show 10 + (q - 10) = q by omega] at e2 g5
        rw [List.map_cons, show g_cv ad rv (.retAddr q) = .ref b from e2]
        exact va_tlen hx hb g5 hS rfl hdg (go hst hL hP hD hS)
    · exact hst.elim
  | iastore =>
    simp only [g_okx, beq_iff_eq] at hox
    subst hox
    unfold g_step at hst
    dsimp only at hst
    split at hst
    · obtain ⟨mm, hk, rfl, hj, hst⟩ := hst
      exact g_wI F' hk hj hdg hP hD hS (fun H1 locs1 k1 k2 k3 => go hst hL k1 k2 k3)
    · exact hst.elim
  | bastore =>
    simp only [g_okx, beq_iff_eq] at hox
    subst hox
    unfold g_step at hst
    dsimp only at hst
    split at hst
    · obtain ⟨mm, hk, rfl, hj, hn, hst⟩ := hst
      exact g_wZ F' hk hj hn hdg hP hD hS (fun H1 locs1 k1 k2 k3 => go hst hL k1 k2 k3)
    · exact hst.elim
  | invokevirtual k =>
    simp only [g_okx, Bool.and_eq_true, Bool.or_eq_true, beq_iff_eq, decide_eq_true_eq] at hox
    obtain ⟨⟨⟨⟨⟨⟨⟨rfl, h1⟩, h2⟩, h3⟩, h4⟩, h5⟩, h6⟩, h7⟩ := hox
    unfold g_step at hst
    dsimp only at hst
    split at hst
    · rename_i v as r hpop
      obtain ⟨hr, hr1, hr2, R', hw, hk⟩ := hst
      obtain ⟨pre, e1, e2, e3⟩ := g_pop_spec _ _ _ _ _ hpop
      rw [List.append_nil] at e3
      have e4 : pre = as.reverse ++ [v] := by
        rw [← List.reverse_reverse pre, ← e3, List.reverse_cons]
      have e5 : as.length = x.2.1 := by
        rw [e4, List.length_append, List.length_reverse] at e2
        exact Nat.succ.inj e2
      subst e1
      rw [e4, List.append_assoc, List.singleton_append]
      obtain ⟨d', rfl, hcon⟩ := hO _ _ _ _ h1 h2 hr2 hw
      have hrc : ∃ b, g_cv ad rv v = .ref b ∧ ∃ cellB : Cell, H[b]? = some cellB ∧ cellB.vm.isStatics = false ∧ s.vm.findClass (g_y x.1).cls = some cellB.cls := by
        unfold g_rcv at hr
        rw [show (g_mm x.1).1 = g_mc x.1 from rfl] at hr
        split at hr
        · rename_i a
          refine ⟨ad a, rfl, ?_⟩
          rcases h7 with ⟨h8, h9⟩ | ⟨h8, h9⟩
          · have ha : a < g_N := g_kd_lt (by omega)
            have hw2 := g_w_at (ad := ad) (Y := Y) (σ := σ) ha
            rw [g_mkO hr h9] at hw2
            have := va_recv hK hP (g_C_at h9) hw2
            dsimp only at this
            rw [h8] at this
            exact this
          · exfalso
            rw [h8] at hr
            exact g_kd_9 a hr
        · rename_i q
          obtain ⟨hm, hq1, hq2⟩ := hr
          rcases h7 with ⟨h8, h9⟩ | ⟨h8, h9⟩
          · omega
          · obtain ⟨a, b, f1, f2, g1, g2, -⟩ := hZ.2.2.2.2.2.1 (q - 20) (by omega)
            rw [show 20 + (q - 20) = q by omega] at f1
            refine ⟨a, f1, ?_⟩
            obtain ⟨cell, z1, z2, z3, z4⟩ := g2
            refine ⟨cell, ?_, z2, by rw [h9]; exact z3⟩
            rw [hS.2.1 a (Array.getElem?_eq_some_iff.mp z1).1 z4]
            exact z1
        · exact hr.elim
      obtain ⟨b, hvb, hrc⟩ := hrc
      exact g_callV F' hcon (hom _ h1 h2) (by rw [e5]; exact h3) h4 h5 h6 hvb hrc hP hD hS hL hr1 hdg hk hQ
    · exact hst.elim
  | invokestatic k =>
    obtain ⟨x1, x2, x3, x4, x5⟩ := x
    cases x5 with
    | nil =>
      simp only [g_okx, Bool.and_eq_true, Bool.or_eq_true, beq_iff_eq, decide_eq_true_eq] at hox
      obtain ⟨rfl, ⟨⟨⟨h1, h2⟩, h3⟩, h4⟩, h6⟩ := hox
      unfold g_step at hst
      dsimp only at hst
      split at hst
      · rename_i as r hpop
        obtain ⟨hr1, hr2, R', hw, hk⟩ := hst
        obtain ⟨pre, e1, e2, e3⟩ := g_pop_spec _ _ _ _ _ hpop
        rw [List.append_nil] at e3
        have e4 : pre = as.reverse := by
          rw [← List.reverse_reverse pre, ← e3]
        have e5 : as.length = x2 := by
          rw [e4, List.length_reverse] at e2
          exact e2
        subst e1
        rw [e4]
        obtain ⟨d', rfl, hcon⟩ := hO _ _ _ _ h1 h2 hr2 hw
        exact g_callS F' hcon (hom _ h1 h2) (by rw [e5]; exact h3) h4 h6 hP hD hS hL hr1 hdg hk hQ
      · exact hst.elim
    | cons f x6 =>
      simp only [g_okx, Bool.and_eq_true, beq_iff_eq] at hox
      obtain ⟨rfl, h1⟩ := hox
      unfold g_step at hst
      dsimp only at hst
      obtain ⟨q1, q2, q3, q4, q5, q6, q7, q8, q9, q10⟩ := g_libs
      split at hst
      · unfold g_acp at hst
        split at hst
        · obtain ⟨hr, k1, k2, k3, k4, k5, k6, k7, hst⟩ := hst
          exact g_wC F' hL.1 k1 k2 h1 (g_ble hrv hr) k3 k4 k5 k6 k7 hdg hP hD hS (fun H1 locs1 z1 z2 z3 => go hst hL z1 z2 z3)
        · exact hst.elim
      · split at hst
        · obtain ⟨hr, hst⟩ := hst
          have := g_ble (ad := ad) hrv hr
          exact va_mmax hx hb (hml.trans hL.1.symm) hown (hts _ (g_in_mem h1)) (hts _ (g_in_mem q5)) (hts _ (g_in_mem q4)) (hts _ (g_in_mem q8)) (by omega) (by omega) hc1 hc2 hdg (go hst hL hP hD hS)
        · exact hst.elim
      · split at hst
        · obtain ⟨hr, hst⟩ := hst
          have := g_ble (ad := ad) hrv hr
          exact va_mmin hx hb (hml.trans hL.1.symm) hown (hts _ (g_in_mem h1)) (hts _ (g_in_mem q6)) (hts _ (g_in_mem q4)) (hts _ (g_in_mem q9)) (by omega) (by omega) hc1 hc2 hdg (go hst hL hP hD hS)
        · exact hst.elim
      · rename_i n1 n2 n3
        split at hst
        · obtain ⟨hr, hst⟩ := hst
          have := g_ble (ad := ad) hrv hr
          have h2 : g_in (.methodLink (g_y M).cls k Lib.Math.abs.name) = true := by
            revert h1
            split
            · exact fun _ => absurd rfl n1
            · exact fun _ => absurd rfl n2
            · exact fun _ => absurd rfl n3
            · exact fun z => z
          exact va_mabs hx hb (hml.trans hL.1.symm) hown (hts _ (g_in_mem h2)) (hts _ (g_in_mem q7)) (hts _ (g_in_mem q4)) (hts _ (g_in_mem q10)) (by omega) (by omega) hc1 hc2 hdg (go hst hL hP hD hS)
        · exact hst.elim
  | ireturn =>
    simp only [g_okx, Bool.and_eq_true, beq_iff_eq, decide_eq_true_eq] at hox
    obtain ⟨rfl, hr⟩ := hox
    unfold g_step at hst
    dsimp only at hst
    split at hst
    · exact hret.1 pc H locs ls _ _ σ hdg hr hst.1 hst.2 hP hD hS
    · exact hst.elim
  | lreturn =>
    simp only [g_okx, Bool.and_eq_true, beq_iff_eq, decide_eq_true_eq] at hox
    obtain ⟨rfl, hr⟩ := hox
    unfold g_step at hst
    dsimp only at hst
    split at hst
    · exact hret.2.1 pc H locs ls _ σ hdg hr hst hP hD hS
    · exact hst.elim
  | return_ =>
    simp only [g_okx, Bool.and_eq_true, beq_iff_eq, decide_eq_true_eq] at hox
    obtain ⟨rfl, hr⟩ := hox
    unfold g_step at hst
    dsimp only at hst
    split at hst
    · exact hret.2.2 pc H locs ls σ hdg hr hst hP hD hS
    · exact hst.elim
  | _ => exact False.elim hst
end GM
end
section
section GX
variable {ad : Nat → Nat} {rv : Nat → Value} {D : va_G} {Y : g_Y} {E : g_E}
/-- a run of the small machine from where a frame stands, at the machine -/
theorem g_run {p : Program} {l : Launch} {e : Env} {Rm : Room} {s : State} {m : MethodId} {args : Array Value} {below : List Frame} {meth : Method} {c : Code} {Q : State → Prop} {A : Nat → Prop} {M d cells slots : Nat} {O : g_O} {R : g_R}
    (F : g_Fr p l Rm s m args c ad rv D Y A E M d cells slots) (hall : (g_cl M).all (g_okI M) = true) (hom : ∀ M', 0 < M' → M' < 194 → g_okM M' = true)
    (hO : ∀ M' as σ R', 0 < M' → M' < 194 → Nat.ble (g_slots as).length (g_ml M') = true → O M' as σ R' → ∃ d', d = d' + 1 ∧ g_Con E ad rv D Y l d' M' as σ R') (hret : g_Ret p l e Rm s m args below meth c Q ad D Y A M cells slots R)
    {pc : Nat} {L : g_L} {st : List Value} {σ : g_S} (h : g_g E O M pc L st σ R) : g_P p l e Rm s m args below meth c Q ad rv D Y A (g_ml M) cells slots pc L st σ :=
  h _ (fun K pc L st σ i n x hQ hcd hst => g_closed F hall hom hO hret hQ hcd hst) (fun pc L0 L st σ h0 hl H locs ls hL hP hD hS => h0 H locs ls (hL.weak hl) hP hD hS)
theorem g_con1 (hall : ∀ M, M < 194 → (g_cl M).all (g_okI M) = true) (hom : ∀ M', 0 < M' → M' < 194 → g_okM M' = true) (l : Launch) {d M : Nat} {as : List Value} {σ : g_S} {R : g_R} (h0 : 0 < M) (h1 : M < 194) (hbl : Nat.ble (g_slots as).length (g_ml M) = true) {O : g_O} (h : g_g E O M 0 (g_ent (g_ml M) as) [] σ R)
    (hO : ∀ M' as σ R', 0 < M' → M' < 194 → Nat.ble (g_slots as).length (g_ml M') = true → O M' as σ R' → ∃ d', d = d' + 1 ∧ g_Con E ad rv D Y l d' M' as σ R') : g_Con E ad rv D Y l d M as σ R := by
  obtain ⟨o1, o2, o3, o4, o5⟩ := g_okM_i (hom M h0 h1)
  refine Met.ofW (cc := g_by M) (maxL := g_ml M) (ret := g_rt M) o4 rfl ?_
  intro p e s m args below meth c s₁ B hml hv
  obtain ⟨rfl, hP, hK, hD, hZ⟩ := hv
  have hx := B.exec
  have hb := B.bytes
  have hr := B.returns
  have hts := atoms_spec (ws := .code (g_y M) (g_by M) (g_ml M) (g_rt M) :: g_W) B.pre
  have hown : s.vm.findClass (g_y M).cls = some m.cls := findClass_of_methodNamed B.named
  have hlocks := B.notSynchronized
  have hrv := g_rvk hZ.2.2.2.2.2.2
  have F : g_Fr p l (g_rm d) s m (as.map (g_cv ad rv)).toArray c ad rv D Y (g_A ad) E M d 0 0 := ⟨hx, hb, hml, hown, fun w hw => hts w (List.mem_cons_of_mem _ hw), hK, hZ, fun _ h => h, ⟨Nat.le_refl _, Nat.le_refl _⟩, Nat.le_refl _, Nat.le_refl _⟩
  rw [lg_entry_eq]
  refine g_run F (hall M h1) hom hO ?_ h s.heap [] _ (g_H.entry hrv hbl) hP hD va_S.rf
  have post : ∀ (u : Option Value) (σ : g_S) (H : Heap) (locs : List Loc), R u σ → va_P D vwCl (g_w ad Y σ) H → va_D (g_A ad) (g_w ad Y σ) → va_S (g_A ad) s.heap H locs → ∀ t : State, t.heap = H → (∃ r, Outcome.returned (u.map (g_cv ad rv)) = .returned r ∧ g_Post ad rv D Y R r t) ∧ va_F (g_A ad) s t :=
    fun u σ H locs hR h1 h2 h3 t ht => ⟨⟨_, rfl, u, σ, hR, rfl, by rw [ht]; exact h1, h2⟩, h3.F ht⟩
  refine ⟨?_, ?_, ?_⟩
  · intro pc H locs ls v ty σ hdg hty hn hR h1 h2 h3
    exact W.zret (free := g_A ad) hx hb (hr.trans hty) hn (fun t ht hW => post _ _ _ _ hR h1 h2 h3 t ht) h3.2.2 hdg (hlocks := hlocks)
  · intro pc H locs ls v σ hdg hty hR h1 h2 h3
    exact W.lret (free := g_A ad) hx hb (hr.trans hty) (fun t ht hW => post _ _ _ _ hR h1 h2 h3 t ht) h3.2.2 hdg (hlocks := hlocks)
  · intro pc H locs ls σ hdg hty hR h1 h2 h3
    exact W.vret (free := g_A ad) hx hb (hr.trans hty) (fun t ht hW => post _ _ _ _ hR h1 h2 h3 t ht) h3.2.2 hdg (hlocks := hlocks)
theorem g_con (hall : ∀ M, M < 194 → (g_cl M).all (g_okI M) = true) (hom : ∀ M', 0 < M' → M' < 194 → g_okM M' = true) (l : Launch) : ∀ (d M : Nat) (as : List Value) (σ : g_S) (R : g_R), 0 < M → M < 194 → Nat.ble (g_slots as).length (g_ml M) = true → g_wp E (d + 1) M as σ R → g_Con E ad rv D Y l d M as σ R := by
  intro d
  induction d with
  | zero =>
    intro M as σ R h0 h1 hb h
    exact g_con1 (d := 0) hall hom l h0 h1 hb (O := g_wp E 0) h (fun _ _ _ _ _ _ _ z => z.elim)
  | succ d ih =>
    intro M as σ R h0 h1 hb h
    exact g_con1 (d := d + 1) hall hom l h0 h1 hb (O := g_wp E (d + 1)) h (fun M' as σ R' k0 k1 k2 z => ⟨d, rfl, ih M' as σ R' k0 k1 k2 z⟩)
end GX
end
section
abbrev g_PA (M : Nat) : Prop := (g_cl M).all (g_okI M) = true
abbrev g_PB (M : Nat) : Prop := 0 < M → g_okM M = true
theorem g_pa16 : ∀ M, M < 16 → g_PA M := lt_s (i := 15) (lt_s (i := 14) (lt_s (i := 13) (lt_s (i := 12) (lt_s (i := 11) (lt_s (i := 10) (lt_s (i := 9) (lt_s (i := 8) (lt_s (i := 7) (lt_s (i := 6) (lt_s (i := 5) (lt_s (i := 4) (lt_s (i := 3) (lt_s (i := 2) (lt_s (i := 1) (lt_s (i := 0) (lt_0) ((congrArg (fun l => List.all l (g_okI 0)) g_q0).trans g_ok0)) ((congrArg (fun l => List.all l (g_okI 1)) g_q1).trans g_ok1)) ((congrArg (fun l => List.all l (g_okI 2)) g_q2).trans g_ok2)) ((congrArg (fun l => List.all l (g_okI 3)) g_q3).trans g_ok3)) ((congrArg (fun l => List.all l (g_okI 4)) g_q4).trans g_ok4)) ((congrArg (fun l => List.all l (g_okI 5)) g_q5).trans g_ok5)) ((congrArg (fun l => List.all l (g_okI 6)) g_q6).trans g_ok6)) ((congrArg (fun l => List.all l (g_okI 7)) g_q7).trans g_ok7)) ((congrArg (fun l => List.all l (g_okI 8)) g_q8).trans g_ok8)) ((congrArg (fun l => List.all l (g_okI 9)) g_q9).trans g_ok9)) ((congrArg (fun l => List.all l (g_okI 10)) g_q10).trans g_ok10)) ((congrArg (fun l => List.all l (g_okI 11)) g_q11).trans g_ok11)) ((congrArg (fun l => List.all l (g_okI 12)) g_q12).trans g_ok12)) ((congrArg (fun l => List.all l (g_okI 13)) g_q13).trans g_ok13)) ((congrArg (fun l => List.all l (g_okI 14)) g_q14).trans g_ok14)) ((congrArg (fun l => List.all l (g_okI 15)) g_q15).trans g_ok15)
theorem g_pb16 : ∀ M, M < 16 → g_PB M := lt_s (i := 15) (lt_s (i := 14) (lt_s (i := 13) (lt_s (i := 12) (lt_s (i := 11) (lt_s (i := 10) (lt_s (i := 9) (lt_s (i := 8) (lt_s (i := 7) (lt_s (i := 6) (lt_s (i := 5) (lt_s (i := 4) (lt_s (i := 3) (lt_s (i := 2) (lt_s (i := 1) (lt_s (i := 0) (lt_0) (fun h => absurd h (Nat.lt_irrefl 0))) (fun h => g_om1)) (fun h => g_om2)) (fun h => g_om3)) (fun h => g_om4)) (fun h => g_om5)) (fun h => g_om6)) (fun h => g_om7)) (fun h => g_om8)) (fun h => g_om9)) (fun h => g_om10)) (fun h => g_om11)) (fun h => g_om12)) (fun h => g_om13)) (fun h => g_om14)) (fun h => g_om15)
theorem g_pa32 : ∀ M, M < 32 → g_PA M := lt_s (i := 31) (lt_s (i := 30) (lt_s (i := 29) (lt_s (i := 28) (lt_s (i := 27) (lt_s (i := 26) (lt_s (i := 25) (lt_s (i := 24) (lt_s (i := 23) (lt_s (i := 22) (lt_s (i := 21) (lt_s (i := 20) (lt_s (i := 19) (lt_s (i := 18) (lt_s (i := 17) (lt_s (i := 16) (g_pa16) ((congrArg (fun l => List.all l (g_okI 16)) g_q16).trans g_ok16)) ((congrArg (fun l => List.all l (g_okI 17)) g_q17).trans g_ok17)) ((congrArg (fun l => List.all l (g_okI 18)) g_q18).trans g_ok18)) ((congrArg (fun l => List.all l (g_okI 19)) g_q19).trans g_ok19)) ((congrArg (fun l => List.all l (g_okI 20)) g_q20).trans g_ok20)) ((congrArg (fun l => List.all l (g_okI 21)) g_q21).trans g_ok21)) ((congrArg (fun l => List.all l (g_okI 22)) g_q22).trans g_ok22)) ((congrArg (fun l => List.all l (g_okI 23)) g_q23).trans g_ok23)) ((congrArg (fun l => List.all l (g_okI 24)) g_q24).trans g_ok24)) ((congrArg (fun l => List.all l (g_okI 25)) g_q25).trans g_ok25)) ((congrArg (fun l => List.all l (g_okI 26)) g_q26).trans g_ok26)) ((congrArg (fun l => List.all l (g_okI 27)) g_q27).trans g_ok27)) ((congrArg (fun l => List.all l (g_okI 28)) g_q28).trans g_ok28)) ((congrArg (fun l => List.all l (g_okI 29)) g_q29).trans g_ok29)) ((congrArg (fun l => List.all l (g_okI 30)) g_q30).trans g_ok30)) ((congrArg (fun l => List.all l (g_okI 31)) g_q31).trans g_ok31)
theorem g_pb32 : ∀ M, M < 32 → g_PB M := lt_s (i := 31) (lt_s (i := 30) (lt_s (i := 29) (lt_s (i := 28) (lt_s (i := 27) (lt_s (i := 26) (lt_s (i := 25) (lt_s (i := 24) (lt_s (i := 23) (lt_s (i := 22) (lt_s (i := 21) (lt_s (i := 20) (lt_s (i := 19) (lt_s (i := 18) (lt_s (i := 17) (lt_s (i := 16) (g_pb16) (fun h => g_om16)) (fun h => g_om17)) (fun h => g_om18)) (fun h => g_om19)) (fun h => g_om20)) (fun h => g_om21)) (fun h => g_om22)) (fun h => g_om23)) (fun h => g_om24)) (fun h => g_om25)) (fun h => g_om26)) (fun h => g_om27)) (fun h => g_om28)) (fun h => g_om29)) (fun h => g_om30)) (fun h => g_om31)
theorem g_pa48 : ∀ M, M < 48 → g_PA M := lt_s (i := 47) (lt_s (i := 46) (lt_s (i := 45) (lt_s (i := 44) (lt_s (i := 43) (lt_s (i := 42) (lt_s (i := 41) (lt_s (i := 40) (lt_s (i := 39) (lt_s (i := 38) (lt_s (i := 37) (lt_s (i := 36) (lt_s (i := 35) (lt_s (i := 34) (lt_s (i := 33) (lt_s (i := 32) (g_pa32) ((congrArg (fun l => List.all l (g_okI 32)) g_q32).trans g_ok32)) ((congrArg (fun l => List.all l (g_okI 33)) g_q33).trans g_ok33)) ((congrArg (fun l => List.all l (g_okI 34)) g_q34).trans g_ok34)) ((congrArg (fun l => List.all l (g_okI 35)) g_q35).trans g_ok35)) ((congrArg (fun l => List.all l (g_okI 36)) g_q36).trans g_ok36)) ((congrArg (fun l => List.all l (g_okI 37)) g_q37).trans g_ok37)) ((congrArg (fun l => List.all l (g_okI 38)) g_q38).trans g_ok38)) ((congrArg (fun l => List.all l (g_okI 39)) g_q39).trans g_ok39)) ((congrArg (fun l => List.all l (g_okI 40)) g_q40).trans g_ok40)) ((congrArg (fun l => List.all l (g_okI 41)) g_q41).trans g_ok41)) ((congrArg (fun l => List.all l (g_okI 42)) g_q42).trans g_ok42)) ((congrArg (fun l => List.all l (g_okI 43)) g_q43).trans g_ok43)) ((congrArg (fun l => List.all l (g_okI 44)) g_q44).trans g_ok44)) ((congrArg (fun l => List.all l (g_okI 45)) g_q45).trans g_ok45)) ((congrArg (fun l => List.all l (g_okI 46)) g_q46).trans g_ok46)) ((congrArg (fun l => List.all l (g_okI 47)) g_q47).trans g_ok47)
theorem g_pb48 : ∀ M, M < 48 → g_PB M := lt_s (i := 47) (lt_s (i := 46) (lt_s (i := 45) (lt_s (i := 44) (lt_s (i := 43) (lt_s (i := 42) (lt_s (i := 41) (lt_s (i := 40) (lt_s (i := 39) (lt_s (i := 38) (lt_s (i := 37) (lt_s (i := 36) (lt_s (i := 35) (lt_s (i := 34) (lt_s (i := 33) (lt_s (i := 32) (g_pb32) (fun h => g_om32)) (fun h => g_om33)) (fun h => g_om34)) (fun h => g_om35)) (fun h => g_om36)) (fun h => g_om37)) (fun h => g_om38)) (fun h => g_om39)) (fun h => g_om40)) (fun h => g_om41)) (fun h => g_om42)) (fun h => g_om43)) (fun h => g_om44)) (fun h => g_om45)) (fun h => g_om46)) (fun h => g_om47)
theorem g_pa64 : ∀ M, M < 64 → g_PA M := lt_s (i := 63) (lt_s (i := 62) (lt_s (i := 61) (lt_s (i := 60) (lt_s (i := 59) (lt_s (i := 58) (lt_s (i := 57) (lt_s (i := 56) (lt_s (i := 55) (lt_s (i := 54) (lt_s (i := 53) (lt_s (i := 52) (lt_s (i := 51) (lt_s (i := 50) (lt_s (i := 49) (lt_s (i := 48) (g_pa48) ((congrArg (fun l => List.all l (g_okI 48)) g_q48).trans g_ok48)) ((congrArg (fun l => List.all l (g_okI 49)) g_q49).trans g_ok49)) ((congrArg (fun l => List.all l (g_okI 50)) g_q50).trans g_ok50)) ((congrArg (fun l => List.all l (g_okI 51)) g_q51).trans g_ok51)) ((congrArg (fun l => List.all l (g_okI 52)) g_q52).trans g_ok52)) ((congrArg (fun l => List.all l (g_okI 53)) g_q53).trans g_ok53)) ((congrArg (fun l => List.all l (g_okI 54)) g_q54).trans g_ok54)) ((congrArg (fun l => List.all l (g_okI 55)) g_q55).trans g_ok55)) ((congrArg (fun l => List.all l (g_okI 56)) g_q56).trans g_ok56)) ((congrArg (fun l => List.all l (g_okI 57)) g_q57).trans g_ok57)) ((congrArg (fun l => List.all l (g_okI 58)) g_q58).trans g_ok58)) ((congrArg (fun l => List.all l (g_okI 59)) g_q59).trans g_ok59)) ((congrArg (fun l => List.all l (g_okI 60)) g_q60).trans g_ok60)) ((congrArg (fun l => List.all l (g_okI 61)) g_q61).trans g_ok61)) ((congrArg (fun l => List.all l (g_okI 62)) g_q62).trans g_ok62)) ((congrArg (fun l => List.all l (g_okI 63)) g_q63).trans g_ok63)
theorem g_pb64 : ∀ M, M < 64 → g_PB M := lt_s (i := 63) (lt_s (i := 62) (lt_s (i := 61) (lt_s (i := 60) (lt_s (i := 59) (lt_s (i := 58) (lt_s (i := 57) (lt_s (i := 56) (lt_s (i := 55) (lt_s (i := 54) (lt_s (i := 53) (lt_s (i := 52) (lt_s (i := 51) (lt_s (i := 50) (lt_s (i := 49) (lt_s (i := 48) (g_pb48) (fun h => g_om48)) (fun h => g_om49)) (fun h => g_om50)) (fun h => g_om51)) (fun h => g_om52)) (fun h => g_om53)) (fun h => g_om54)) (fun h => g_om55)) (fun h => g_om56)) (fun h => g_om57)) (fun h => g_om58)) (fun h => g_om59)) (fun h => g_om60)) (fun h => g_om61)) (fun h => g_om62)) (fun h => g_om63)
theorem g_pa80 : ∀ M, M < 80 → g_PA M := lt_s (i := 79) (lt_s (i := 78) (lt_s (i := 77) (lt_s (i := 76) (lt_s (i := 75) (lt_s (i := 74) (lt_s (i := 73) (lt_s (i := 72) (lt_s (i := 71) (lt_s (i := 70) (lt_s (i := 69) (lt_s (i := 68) (lt_s (i := 67) (lt_s (i := 66) (lt_s (i := 65) (lt_s (i := 64) (g_pa64) ((congrArg (fun l => List.all l (g_okI 64)) g_q64).trans g_ok64)) ((congrArg (fun l => List.all l (g_okI 65)) g_q65).trans g_ok65)) ((congrArg (fun l => List.all l (g_okI 66)) g_q66).trans g_ok66)) ((congrArg (fun l => List.all l (g_okI 67)) g_q67).trans g_ok67)) ((congrArg (fun l => List.all l (g_okI 68)) g_q68).trans g_ok68)) ((congrArg (fun l => List.all l (g_okI 69)) g_q69).trans g_ok69)) ((congrArg (fun l => List.all l (g_okI 70)) g_q70).trans g_ok70)) ((congrArg (fun l => List.all l (g_okI 71)) g_q71).trans g_ok71)) ((congrArg (fun l => List.all l (g_okI 72)) g_q72).trans g_ok72)) ((congrArg (fun l => List.all l (g_okI 73)) g_q73).trans g_ok73)) ((congrArg (fun l => List.all l (g_okI 74)) g_q74).trans g_ok74)) ((congrArg (fun l => List.all l (g_okI 75)) g_q75).trans g_ok75)) ((congrArg (fun l => List.all l (g_okI 76)) g_q76).trans g_ok76)) ((congrArg (fun l => List.all l (g_okI 77)) g_q77).trans g_ok77)) ((congrArg (fun l => List.all l (g_okI 78)) g_q78).trans g_ok78)) ((congrArg (fun l => List.all l (g_okI 79)) g_q79).trans g_ok79)
theorem g_pb80 : ∀ M, M < 80 → g_PB M := lt_s (i := 79) (lt_s (i := 78) (lt_s (i := 77) (lt_s (i := 76) (lt_s (i := 75) (lt_s (i := 74) (lt_s (i := 73) (lt_s (i := 72) (lt_s (i := 71) (lt_s (i := 70) (lt_s (i := 69) (lt_s (i := 68) (lt_s (i := 67) (lt_s (i := 66) (lt_s (i := 65) (lt_s (i := 64) (g_pb64) (fun h => g_om64)) (fun h => g_om65)) (fun h => g_om66)) (fun h => g_om67)) (fun h => g_om68)) (fun h => g_om69)) (fun h => g_om70)) (fun h => g_om71)) (fun h => g_om72)) (fun h => g_om73)) (fun h => g_om74)) (fun h => g_om75)) (fun h => g_om76)) (fun h => g_om77)) (fun h => g_om78)) (fun h => g_om79)
theorem g_pa96 : ∀ M, M < 96 → g_PA M := lt_s (i := 95) (lt_s (i := 94) (lt_s (i := 93) (lt_s (i := 92) (lt_s (i := 91) (lt_s (i := 90) (lt_s (i := 89) (lt_s (i := 88) (lt_s (i := 87) (lt_s (i := 86) (lt_s (i := 85) (lt_s (i := 84) (lt_s (i := 83) (lt_s (i := 82) (lt_s (i := 81) (lt_s (i := 80) (g_pa80) ((congrArg (fun l => List.all l (g_okI 80)) g_q80).trans g_ok80)) ((congrArg (fun l => List.all l (g_okI 81)) g_q81).trans g_ok81)) ((congrArg (fun l => List.all l (g_okI 82)) g_q82).trans g_ok82)) ((congrArg (fun l => List.all l (g_okI 83)) g_q83).trans g_ok83)) ((congrArg (fun l => List.all l (g_okI 84)) g_q84).trans g_ok84)) ((congrArg (fun l => List.all l (g_okI 85)) g_q85).trans g_ok85)) ((congrArg (fun l => List.all l (g_okI 86)) g_q86).trans g_ok86)) ((congrArg (fun l => List.all l (g_okI 87)) g_q87).trans g_ok87)) ((congrArg (fun l => List.all l (g_okI 88)) g_q88).trans g_ok88)) ((congrArg (fun l => List.all l (g_okI 89)) g_q89).trans g_ok89)) ((congrArg (fun l => List.all l (g_okI 90)) g_q90).trans g_ok90)) ((congrArg (fun l => List.all l (g_okI 91)) g_q91).trans g_ok91)) ((congrArg (fun l => List.all l (g_okI 92)) g_q92).trans g_ok92)) ((congrArg (fun l => List.all l (g_okI 93)) g_q93).trans g_ok93)) ((congrArg (fun l => List.all l (g_okI 94)) g_q94).trans g_ok94)) ((congrArg (fun l => List.all l (g_okI 95)) g_q95).trans g_ok95)
theorem g_pb96 : ∀ M, M < 96 → g_PB M := lt_s (i := 95) (lt_s (i := 94) (lt_s (i := 93) (lt_s (i := 92) (lt_s (i := 91) (lt_s (i := 90) (lt_s (i := 89) (lt_s (i := 88) (lt_s (i := 87) (lt_s (i := 86) (lt_s (i := 85) (lt_s (i := 84) (lt_s (i := 83) (lt_s (i := 82) (lt_s (i := 81) (lt_s (i := 80) (g_pb80) (fun h => g_om80)) (fun h => g_om81)) (fun h => g_om82)) (fun h => g_om83)) (fun h => g_om84)) (fun h => g_om85)) (fun h => g_om86)) (fun h => g_om87)) (fun h => g_om88)) (fun h => g_om89)) (fun h => g_om90)) (fun h => g_om91)) (fun h => g_om92)) (fun h => g_om93)) (fun h => g_om94)) (fun h => g_om95)
theorem g_pa112 : ∀ M, M < 112 → g_PA M := lt_s (i := 111) (lt_s (i := 110) (lt_s (i := 109) (lt_s (i := 108) (lt_s (i := 107) (lt_s (i := 106) (lt_s (i := 105) (lt_s (i := 104) (lt_s (i := 103) (lt_s (i := 102) (lt_s (i := 101) (lt_s (i := 100) (lt_s (i := 99) (lt_s (i := 98) (lt_s (i := 97) (lt_s (i := 96) (g_pa96) ((congrArg (fun l => List.all l (g_okI 96)) g_q96).trans g_ok96)) ((congrArg (fun l => List.all l (g_okI 97)) g_q97).trans g_ok97)) ((congrArg (fun l => List.all l (g_okI 98)) g_q98).trans g_ok98)) ((congrArg (fun l => List.all l (g_okI 99)) g_q99).trans g_ok99)) ((congrArg (fun l => List.all l (g_okI 100)) g_q100).trans g_ok100)) ((congrArg (fun l => List.all l (g_okI 101)) g_q101).trans g_ok101)) ((congrArg (fun l => List.all l (g_okI 102)) g_q102).trans g_ok102)) ((congrArg (fun l => List.all l (g_okI 103)) g_q103).trans g_ok103)) ((congrArg (fun l => List.all l (g_okI 104)) g_q104).trans g_ok104)) ((congrArg (fun l => List.all l (g_okI 105)) g_q105).trans g_ok105)) ((congrArg (fun l => List.all l (g_okI 106)) g_q106).trans g_ok106)) ((congrArg (fun l => List.all l (g_okI 107)) g_q107).trans g_ok107)) ((congrArg (fun l => List.all l (g_okI 108)) g_q108).trans g_ok108)) ((congrArg (fun l => List.all l (g_okI 109)) g_q109).trans g_ok109)) ((congrArg (fun l => List.all l (g_okI 110)) g_q110).trans g_ok110)) ((congrArg (fun l => List.all l (g_okI 111)) g_q111).trans g_ok111)
theorem g_pb112 : ∀ M, M < 112 → g_PB M := lt_s (i := 111) (lt_s (i := 110) (lt_s (i := 109) (lt_s (i := 108) (lt_s (i := 107) (lt_s (i := 106) (lt_s (i := 105) (lt_s (i := 104) (lt_s (i := 103) (lt_s (i := 102) (lt_s (i := 101) (lt_s (i := 100) (lt_s (i := 99) (lt_s (i := 98) (lt_s (i := 97) (lt_s (i := 96) (g_pb96) (fun h => g_om96)) (fun h => g_om97)) (fun h => g_om98)) (fun h => g_om99)) (fun h => g_om100)) (fun h => g_om101)) (fun h => g_om102)) (fun h => g_om103)) (fun h => g_om104)) (fun h => g_om105)) (fun h => g_om106)) (fun h => g_om107)) (fun h => g_om108)) (fun h => g_om109)) (fun h => g_om110)) (fun h => g_om111)
theorem g_pa128 : ∀ M, M < 128 → g_PA M := lt_s (i := 127) (lt_s (i := 126) (lt_s (i := 125) (lt_s (i := 124) (lt_s (i := 123) (lt_s (i := 122) (lt_s (i := 121) (lt_s (i := 120) (lt_s (i := 119) (lt_s (i := 118) (lt_s (i := 117) (lt_s (i := 116) (lt_s (i := 115) (lt_s (i := 114) (lt_s (i := 113) (lt_s (i := 112) (g_pa112) ((congrArg (fun l => List.all l (g_okI 112)) g_q112).trans g_ok112)) ((congrArg (fun l => List.all l (g_okI 113)) g_q113).trans g_ok113)) ((congrArg (fun l => List.all l (g_okI 114)) g_q114).trans g_ok114)) ((congrArg (fun l => List.all l (g_okI 115)) g_q115).trans g_ok115)) ((congrArg (fun l => List.all l (g_okI 116)) g_q116).trans g_ok116)) ((congrArg (fun l => List.all l (g_okI 117)) g_q117).trans g_ok117)) ((congrArg (fun l => List.all l (g_okI 118)) g_q118).trans g_ok118)) ((congrArg (fun l => List.all l (g_okI 119)) g_q119).trans g_ok119)) ((congrArg (fun l => List.all l (g_okI 120)) g_q120).trans g_ok120)) ((congrArg (fun l => List.all l (g_okI 121)) g_q121).trans g_ok121)) ((congrArg (fun l => List.all l (g_okI 122)) g_q122).trans g_ok122)) ((congrArg (fun l => List.all l (g_okI 123)) g_q123).trans g_ok123)) ((congrArg (fun l => List.all l (g_okI 124)) g_q124).trans g_ok124)) ((congrArg (fun l => List.all l (g_okI 125)) g_q125).trans g_ok125)) ((congrArg (fun l => List.all l (g_okI 126)) g_q126).trans g_ok126)) ((congrArg (fun l => List.all l (g_okI 127)) g_q127).trans g_ok127)
theorem g_pb128 : ∀ M, M < 128 → g_PB M := lt_s (i := 127) (lt_s (i := 126) (lt_s (i := 125) (lt_s (i := 124) (lt_s (i := 123) (lt_s (i := 122) (lt_s (i := 121) (lt_s (i := 120) (lt_s (i := 119) (lt_s (i := 118) (lt_s (i := 117) (lt_s (i := 116) (lt_s (i := 115) (lt_s (i := 114) (lt_s (i := 113) (lt_s (i := 112) (g_pb112) (fun h => g_om112)) (fun h => g_om113)) (fun h => g_om114)) (fun h => g_om115)) (fun h => g_om116)) (fun h => g_om117)) (fun h => g_om118)) (fun h => g_om119)) (fun h => g_om120)) (fun h => g_om121)) (fun h => g_om122)) (fun h => g_om123)) (fun h => g_om124)) (fun h => g_om125)) (fun h => g_om126)) (fun h => g_om127)
theorem g_pa144 : ∀ M, M < 144 → g_PA M := lt_s (i := 143) (lt_s (i := 142) (lt_s (i := 141) (lt_s (i := 140) (lt_s (i := 139) (lt_s (i := 138) (lt_s (i := 137) (lt_s (i := 136) (lt_s (i := 135) (lt_s (i := 134) (lt_s (i := 133) (lt_s (i := 132) (lt_s (i := 131) (lt_s (i := 130) (lt_s (i := 129) (lt_s (i := 128) (g_pa128) ((congrArg (fun l => List.all l (g_okI 128)) g_q128).trans g_ok128)) ((congrArg (fun l => List.all l (g_okI 129)) g_q129).trans g_ok129)) ((congrArg (fun l => List.all l (g_okI 130)) g_q130).trans g_ok130)) ((congrArg (fun l => List.all l (g_okI 131)) g_q131).trans g_ok131)) ((congrArg (fun l => List.all l (g_okI 132)) g_q132).trans g_ok132)) ((congrArg (fun l => List.all l (g_okI 133)) g_q133).trans g_ok133)) ((congrArg (fun l => List.all l (g_okI 134)) g_q134).trans g_ok134)) ((congrArg (fun l => List.all l (g_okI 135)) g_q135).trans g_ok135)) ((congrArg (fun l => List.all l (g_okI 136)) g_q136).trans g_ok136)) ((congrArg (fun l => List.all l (g_okI 137)) g_q137).trans g_ok137)) ((congrArg (fun l => List.all l (g_okI 138)) g_q138).trans g_ok138)) ((congrArg (fun l => List.all l (g_okI 139)) g_q139).trans g_ok139)) ((congrArg (fun l => List.all l (g_okI 140)) g_q140).trans g_ok140)) ((congrArg (fun l => List.all l (g_okI 141)) g_q141).trans g_ok141)) ((congrArg (fun l => List.all l (g_okI 142)) g_q142).trans g_ok142)) ((congrArg (fun l => List.all l (g_okI 143)) g_q143).trans g_ok143)
theorem g_pb144 : ∀ M, M < 144 → g_PB M := lt_s (i := 143) (lt_s (i := 142) (lt_s (i := 141) (lt_s (i := 140) (lt_s (i := 139) (lt_s (i := 138) (lt_s (i := 137) (lt_s (i := 136) (lt_s (i := 135) (lt_s (i := 134) (lt_s (i := 133) (lt_s (i := 132) (lt_s (i := 131) (lt_s (i := 130) (lt_s (i := 129) (lt_s (i := 128) (g_pb128) (fun h => g_om128)) (fun h => g_om129)) (fun h => g_om130)) (fun h => g_om131)) (fun h => g_om132)) (fun h => g_om133)) (fun h => g_om134)) (fun h => g_om135)) (fun h => g_om136)) (fun h => g_om137)) (fun h => g_om138)) (fun h => g_om139)) (fun h => g_om140)) (fun h => g_om141)) (fun h => g_om142)) (fun h => g_om143)
theorem g_pa160 : ∀ M, M < 160 → g_PA M := lt_s (i := 159) (lt_s (i := 158) (lt_s (i := 157) (lt_s (i := 156) (lt_s (i := 155) (lt_s (i := 154) (lt_s (i := 153) (lt_s (i := 152) (lt_s (i := 151) (lt_s (i := 150) (lt_s (i := 149) (lt_s (i := 148) (lt_s (i := 147) (lt_s (i := 146) (lt_s (i := 145) (lt_s (i := 144) (g_pa144) ((congrArg (fun l => List.all l (g_okI 144)) g_q144).trans g_ok144)) ((congrArg (fun l => List.all l (g_okI 145)) g_q145).trans g_ok145)) ((congrArg (fun l => List.all l (g_okI 146)) g_q146).trans g_ok146)) ((congrArg (fun l => List.all l (g_okI 147)) g_q147).trans g_ok147)) ((congrArg (fun l => List.all l (g_okI 148)) g_q148).trans g_ok148)) ((congrArg (fun l => List.all l (g_okI 149)) g_q149).trans g_ok149)) ((congrArg (fun l => List.all l (g_okI 150)) g_q150).trans g_ok150)) ((congrArg (fun l => List.all l (g_okI 151)) g_q151).trans g_ok151)) ((congrArg (fun l => List.all l (g_okI 152)) g_q152).trans g_ok152)) ((congrArg (fun l => List.all l (g_okI 153)) g_q153).trans g_ok153)) ((congrArg (fun l => List.all l (g_okI 154)) g_q154).trans g_ok154)) ((congrArg (fun l => List.all l (g_okI 155)) g_q155).trans g_ok155)) ((congrArg (fun l => List.all l (g_okI 156)) g_q156).trans g_ok156)) ((congrArg (fun l => List.all l (g_okI 157)) g_q157).trans g_ok157)) ((congrArg (fun l => List.all l (g_okI 158)) g_q158).trans g_ok158)) ((congrArg (fun l => List.all l (g_okI 159)) g_q159).trans g_ok159)
theorem g_pb160 : ∀ M, M < 160 → g_PB M := lt_s (i := 159) (lt_s (i := 158) (lt_s (i := 157) (lt_s (i := 156) (lt_s (i := 155) (lt_s (i := 154) (lt_s (i := 153) (lt_s (i := 152) (lt_s (i := 151) (lt_s (i := 150) (lt_s (i := 149) (lt_s (i := 148) (lt_s (i := 147) (lt_s (i := 146) (lt_s (i := 145) (lt_s (i := 144) (g_pb144) (fun h => g_om144)) (fun h => g_om145)) (fun h => g_om146)) (fun h => g_om147)) (fun h => g_om148)) (fun h => g_om149)) (fun h => g_om150)) (fun h => g_om151)) (fun h => g_om152)) (fun h => g_om153)) (fun h => g_om154)) (fun h => g_om155)) (fun h => g_om156)) (fun h => g_om157)) (fun h => g_om158)) (fun h => g_om159)
theorem g_pa176 : ∀ M, M < 176 → g_PA M := lt_s (i := 175) (lt_s (i := 174) (lt_s (i := 173) (lt_s (i := 172) (lt_s (i := 171) (lt_s (i := 170) (lt_s (i := 169) (lt_s (i := 168) (lt_s (i := 167) (lt_s (i := 166) (lt_s (i := 165) (lt_s (i := 164) (lt_s (i := 163) (lt_s (i := 162) (lt_s (i := 161) (lt_s (i := 160) (g_pa160) ((congrArg (fun l => List.all l (g_okI 160)) g_q160).trans g_ok160)) ((congrArg (fun l => List.all l (g_okI 161)) g_q161).trans g_ok161)) ((congrArg (fun l => List.all l (g_okI 162)) g_q162).trans g_ok162)) ((congrArg (fun l => List.all l (g_okI 163)) g_q163).trans g_ok163)) ((congrArg (fun l => List.all l (g_okI 164)) g_q164).trans g_ok164)) ((congrArg (fun l => List.all l (g_okI 165)) g_q165).trans g_ok165)) ((congrArg (fun l => List.all l (g_okI 166)) g_q166).trans g_ok166)) ((congrArg (fun l => List.all l (g_okI 167)) g_q167).trans g_ok167)) ((congrArg (fun l => List.all l (g_okI 168)) g_q168).trans g_ok168)) ((congrArg (fun l => List.all l (g_okI 169)) g_q169).trans g_ok169)) ((congrArg (fun l => List.all l (g_okI 170)) g_q170).trans g_ok170)) ((congrArg (fun l => List.all l (g_okI 171)) g_q171).trans g_ok171)) ((congrArg (fun l => List.all l (g_okI 172)) g_q172).trans g_ok172)) ((congrArg (fun l => List.all l (g_okI 173)) g_q173).trans g_ok173)) ((congrArg (fun l => List.all l (g_okI 174)) g_q174).trans g_ok174)) ((congrArg (fun l => List.all l (g_okI 175)) g_q175).trans g_ok175)
theorem g_pb176 : ∀ M, M < 176 → g_PB M := lt_s (i := 175) (lt_s (i := 174) (lt_s (i := 173) (lt_s (i := 172) (lt_s (i := 171) (lt_s (i := 170) (lt_s (i := 169) (lt_s (i := 168) (lt_s (i := 167) (lt_s (i := 166) (lt_s (i := 165) (lt_s (i := 164) (lt_s (i := 163) (lt_s (i := 162) (lt_s (i := 161) (lt_s (i := 160) (g_pb160) (fun h => g_om160)) (fun h => g_om161)) (fun h => g_om162)) (fun h => g_om163)) (fun h => g_om164)) (fun h => g_om165)) (fun h => g_om166)) (fun h => g_om167)) (fun h => g_om168)) (fun h => g_om169)) (fun h => g_om170)) (fun h => g_om171)) (fun h => g_om172)) (fun h => g_om173)) (fun h => g_om174)) (fun h => g_om175)
theorem g_pa192 : ∀ M, M < 192 → g_PA M := lt_s (i := 191) (lt_s (i := 190) (lt_s (i := 189) (lt_s (i := 188) (lt_s (i := 187) (lt_s (i := 186) (lt_s (i := 185) (lt_s (i := 184) (lt_s (i := 183) (lt_s (i := 182) (lt_s (i := 181) (lt_s (i := 180) (lt_s (i := 179) (lt_s (i := 178) (lt_s (i := 177) (lt_s (i := 176) (g_pa176) ((congrArg (fun l => List.all l (g_okI 176)) g_q176).trans g_ok176)) ((congrArg (fun l => List.all l (g_okI 177)) g_q177).trans g_ok177)) ((congrArg (fun l => List.all l (g_okI 178)) g_q178).trans g_ok178)) ((congrArg (fun l => List.all l (g_okI 179)) g_q179).trans g_ok179)) ((congrArg (fun l => List.all l (g_okI 180)) g_q180).trans g_ok180)) ((congrArg (fun l => List.all l (g_okI 181)) g_q181).trans g_ok181)) ((congrArg (fun l => List.all l (g_okI 182)) g_q182).trans g_ok182)) ((congrArg (fun l => List.all l (g_okI 183)) g_q183).trans g_ok183)) ((congrArg (fun l => List.all l (g_okI 184)) g_q184).trans g_ok184)) ((congrArg (fun l => List.all l (g_okI 185)) g_q185).trans g_ok185)) ((congrArg (fun l => List.all l (g_okI 186)) g_q186).trans g_ok186)) ((congrArg (fun l => List.all l (g_okI 187)) g_q187).trans g_ok187)) ((congrArg (fun l => List.all l (g_okI 188)) g_q188).trans g_ok188)) ((congrArg (fun l => List.all l (g_okI 189)) g_q189).trans g_ok189)) ((congrArg (fun l => List.all l (g_okI 190)) g_q190).trans g_ok190)) ((congrArg (fun l => List.all l (g_okI 191)) g_q191).trans g_ok191)
theorem g_pb192 : ∀ M, M < 192 → g_PB M := lt_s (i := 191) (lt_s (i := 190) (lt_s (i := 189) (lt_s (i := 188) (lt_s (i := 187) (lt_s (i := 186) (lt_s (i := 185) (lt_s (i := 184) (lt_s (i := 183) (lt_s (i := 182) (lt_s (i := 181) (lt_s (i := 180) (lt_s (i := 179) (lt_s (i := 178) (lt_s (i := 177) (lt_s (i := 176) (g_pb176) (fun h => g_om176)) (fun h => g_om177)) (fun h => g_om178)) (fun h => g_om179)) (fun h => g_om180)) (fun h => g_om181)) (fun h => g_om182)) (fun h => g_om183)) (fun h => g_om184)) (fun h => g_om185)) (fun h => g_om186)) (fun h => g_om187)) (fun h => g_om188)) (fun h => g_om189)) (fun h => g_om190)) (fun h => g_om191)
theorem g_pa194 : ∀ M, M < 194 → g_PA M := lt_s (i := 193) (lt_s (i := 192) (g_pa192) ((congrArg (fun l => List.all l (g_okI 192)) g_q192).trans g_ok192)) ((congrArg (fun l => List.all l (g_okI 193)) g_q193).trans g_ok193)
theorem g_pb194 : ∀ M, M < 194 → g_PB M := lt_s (i := 193) (lt_s (i := 192) (g_pb192) (fun h => g_om192)) (fun h => g_om193)
theorem g_hall : ∀ M, M < 194 → (g_cl M).all (g_okI M) = true := g_pa194
theorem g_hom : ∀ M, 0 < M → M < 194 → g_okM M = true := fun M h1 h2 => g_pb194 M h2 h1
/-! towns, and how an answer goes on -/
def g_Tw (b : Nat) : Prop := b = 15 ∨ b = 21 ∨ b = 28 ∨ b = 34
theorem g_tk0 {b : Nat} (h : g_Tw b) : g_kd b = 5 := by rcases h with rfl | rfl | rfl | rfl <;> rfl
theorem g_tk1 {b : Nat} (h : g_Tw b) : g_kd (b + 1) = 100 := by rcases h with rfl | rfl | rfl | rfl <;> rfl
theorem g_tk2 {b : Nat} (h : g_Tw b) : g_kd (b + 2) = 100 := by rcases h with rfl | rfl | rfl | rfl <;> rfl
theorem g_tk3 {b : Nat} (h : g_Tw b) : g_kd (b + 3) = 100 := by rcases h with rfl | rfl | rfl | rfl <;> rfl
theorem g_tk4 {b : Nat} (h : g_Tw b) : g_kd (b + 4) = 100 := by rcases h with rfl | rfl | rfl | rfl <;> rfl
theorem g_tk5 {b : Nat} (h : g_Tw b) : g_kd (b + 5) = 100 := by rcases h with rfl | rfl | rfl | rfl <;> rfl
theorem g_tl1 {b : Nat} (h : g_Tw b) : g_ln (b + 1) = 81 := by rcases h with rfl | rfl | rfl | rfl <;> rfl
theorem g_tl2 {b : Nat} (h : g_Tw b) : g_ln (b + 2) = 73 := by rcases h with rfl | rfl | rfl | rfl <;> rfl
theorem g_tl3 {b : Nat} (h : g_Tw b) : g_ln (b + 3) = 8 := by rcases h with rfl | rfl | rfl | rfl <;> rfl
theorem g_tl4 {b : Nat} (h : g_Tw b) : g_ln (b + 4) = 8 := by rcases h with rfl | rfl | rfl | rfl <;> rfl
theorem g_tl5 {b : Nat} (h : g_Tw b) : g_ln (b + 5) = 8 := by rcases h with rfl | rfl | rfl | rfl <;> rfl
theorem g_tka {a : Nat} (h : g_kd a = 100) : 100 ≤ g_kd a := by omega
theorem g_tkb {a : Nat} (h : g_kd a = 100) : g_kd a < 102 := by omega
def g_ri (k : Int32 → g_S → Prop) : g_R := fun rv σ => ∃ r, rv = some (.int r) ∧ k r σ
def g_rl (k : Int64 → g_S → Prop) : g_R := fun rv σ => ∃ r, rv = some (.long r) ∧ k r σ
def g_r0 (k : g_S → Prop) : g_R := fun rv σ => rv = none ∧ k σ
theorem g_c1 {k : Int32 → g_S → Prop} {K : Option Value → g_S → Prop} (h : ∀ r σ, k r σ → K (some (.int r)) σ) : ∀ rv σ, g_ri k rv σ → K rv σ := by
  rintro _ σ ⟨r, rfl, q⟩
  exact h r σ q
theorem g_c2 {k : Int64 → g_S → Prop} {K : Option Value → g_S → Prop} (h : ∀ r σ, k r σ → K (some (.long r)) σ) : ∀ rv σ, g_rl k rv σ → K rv σ := by
  rintro _ σ ⟨r, rfl, q⟩
  exact h r σ q
theorem g_c0 {k : g_S → Prop} {K : Option Value → g_S → Prop} (h : ∀ σ, k σ → K none σ) : ∀ rv σ, g_r0 k rv σ → K rv σ := by
  rintro _ σ ⟨rfl, q⟩
  exact h σ q
end
section
set_option maxRecDepth 20000 in
theorem t0_18 {E : g_E} {O : g_O} {R : g_R} {σ : g_S} {x3 : Int32}  (h : (((Int32.ofNat E.2) - (7 : Int32) < x3 → R (some (.int 1)) σ) ∧ (¬ ((Int32.ofNat E.2) - (7 : Int32) < x3) → vp_in x3 E.2 ∧ (((((E.1 x3.toNatClampNeg) &&& (31 : Int32)).toInt < 0 ∨ 29 < ((E.1 x3.toNatClampNeg) &&& (31 : Int32)).toInt) → g_g E O 0 18 [some (.retAddr 99), some (.ref 0), some (.ref 68), some (.int (x3 + (7 : Int32)))] [] σ R) ∧ ((E.1 x3.toNatClampNeg) &&& (31 : Int32) = 0 → g_g E O 0 168 [some (.retAddr 99), some (.ref 0), some (.ref 68), some (.int x3)] [] σ R) ∧ ((E.1 x3.toNatClampNeg) &&& (31 : Int32) = 1 → g_g E O 0 211 [some (.retAddr 99), some (.ref 0), some (.ref 68), some (.int x3)] [] σ R) ∧ ((E.1 x3.toNatClampNeg) &&& (31 : Int32) = 2 → g_g E O 0 254 [some (.retAddr 99), some (.ref 0), some (.ref 68), some (.int x3)] [] σ R) ∧ ((E.1 x3.toNatClampNeg) &&& (31 : Int32) = 3 → g_g E O 0 317 [some (.retAddr 99), some (.ref 0), some (.ref 68), some (.int x3)] [] σ R) ∧ ((E.1 x3.toNatClampNeg) &&& (31 : Int32) = 4 → g_g E O 0 340 [some (.retAddr 99), some (.ref 0), some (.ref 68), some (.int x3)] [] σ R) ∧ ((E.1 x3.toNatClampNeg) &&& (31 : Int32) = 5 → g_g E O 0 403 [some (.retAddr 99), some (.ref 0), some (.ref 68), some (.int x3)] [] σ R) ∧ ((E.1 x3.toNatClampNeg) &&& (31 : Int32) = 6 → g_g E O 0 416 [some (.retAddr 99), some (.ref 0), some (.ref 68), some (.int x3)] [] σ R) ∧ ((E.1 x3.toNatClampNeg) &&& (31 : Int32) = 7 → g_g E O 0 429 [some (.retAddr 99), some (.ref 0), some (.ref 68), some (.int x3)] [] σ R) ∧ ((E.1 x3.toNatClampNeg) &&& (31 : Int32) = 8 → g_g E O 0 452 [some (.retAddr 99), some (.ref 0), some (.ref 68), some (.int x3)] [] σ R) ∧ ((E.1 x3.toNatClampNeg) &&& (31 : Int32) = 9 → g_g E O 0 485 [some (.retAddr 99), some (.ref 0), some (.ref 68), some (.int x3)] [] σ R) ∧ ((E.1 x3.toNatClampNeg) &&& (31 : Int32) = 10 → g_g E O 0 518 [some (.retAddr 99), some (.ref 0), some (.ref 68), some (.int x3)] [] σ R) ∧ ((E.1 x3.toNatClampNeg) &&& (31 : Int32) = 11 → g_g E O 0 551 [some (.retAddr 99), some (.ref 0), some (.ref 68), some (.int x3)] [] σ R) ∧ ((E.1 x3.toNatClampNeg) &&& (31 : Int32) = 12 → g_g E O 0 594 [some (.retAddr 99), some (.ref 0), some (.ref 68), some (.int x3)] [] σ R) ∧ ((E.1 x3.toNatClampNeg) &&& (31 : Int32) = 13 → g_g E O 0 607 [some (.retAddr 99), some (.ref 0), some (.ref 68), some (.int x3)] [] σ R) ∧ ((E.1 x3.toNatClampNeg) &&& (31 : Int32) = 14 → g_g E O 0 640 [some (.retAddr 99), some (.ref 0), some (.ref 68), some (.int x3)] [] σ R) ∧ ((E.1 x3.toNatClampNeg) &&& (31 : Int32) = 15 → g_g E O 0 663 [some (.retAddr 99), some (.ref 0), some (.ref 68), some (.int x3)] [] σ R) ∧ ((E.1 x3.toNatClampNeg) &&& (31 : Int32) = 16 → g_g E O 0 696 [some (.retAddr 99), some (.ref 0), some (.ref 68), some (.int x3)] [] σ R) ∧ ((E.1 x3.toNatClampNeg) &&& (31 : Int32) = 17 → g_g E O 0 739 [some (.retAddr 99), some (.ref 0), some (.ref 68), some (.int x3)] [] σ R) ∧ ((E.1 x3.toNatClampNeg) &&& (31 : Int32) = 18 → g_g E O 0 814 [some (.retAddr 99), some (.ref 0), some (.ref 68), some (.int x3)] [] σ R) ∧ ((E.1 x3.toNatClampNeg) &&& (31 : Int32) = 19 → g_g E O 0 867 [some (.retAddr 99), some (.ref 0), some (.ref 68), some (.int x3)] [] σ R) ∧ ((E.1 x3.toNatClampNeg) &&& (31 : Int32) = 20 → g_g E O 0 900 [some (.retAddr 99), some (.ref 0), some (.ref 68), some (.int x3)] [] σ R) ∧ ((E.1 x3.toNatClampNeg) &&& (31 : Int32) = 21 → g_g E O 0 933 [some (.retAddr 99), some (.ref 0), some (.ref 68), some (.int x3)] [] σ R) ∧ ((E.1 x3.toNatClampNeg) &&& (31 : Int32) = 22 → g_g E O 0 976 [some (.retAddr 99), some (.ref 0), some (.ref 68), some (.int x3)] [] σ R) ∧ ((E.1 x3.toNatClampNeg) &&& (31 : Int32) = 23 → g_g E O 0 999 [some (.retAddr 99), some (.ref 0), some (.ref 68), some (.int x3)] [] σ R) ∧ ((E.1 x3.toNatClampNeg) &&& (31 : Int32) = 24 → g_g E O 0 1022 [some (.retAddr 99), some (.ref 0), some (.ref 68), some (.int x3)] [] σ R) ∧ ((E.1 x3.toNatClampNeg) &&& (31 : Int32) = 25 → g_g E O 0 1045 [some (.retAddr 99), some (.ref 0), some (.ref 68), some (.int x3)] [] σ R) ∧ ((E.1 x3.toNatClampNeg) &&& (31 : Int32) = 26 → g_g E O 0 1078 [some (.retAddr 99), some (.ref 0), some (.ref 68), some (.int x3)] [] σ R) ∧ ((E.1 x3.toNatClampNeg) &&& (31 : Int32) = 27 → g_g E O 0 1111 [some (.retAddr 99), some (.ref 0), some (.ref 68), some (.int x3)] [] σ R) ∧ ((E.1 x3.toNatClampNeg) &&& (31 : Int32) = 28 → g_g E O 0 1134 [some (.retAddr 99), some (.ref 0), some (.ref 68), some (.int x3)] [] σ R) ∧ ((E.1 x3.toNatClampNeg) &&& (31 : Int32) = 29 → g_g E O 0 1157 [some (.retAddr 99), some (.ref 0), some (.ref 68), some (.int x3)] [] σ R) ∧ True)))) : g_g E O 0 18 [some (.retAddr 99), some (.ref 0), some (.ref 68), some (.int x3)] [] σ R :=
  (g_at g_q0 rfl (g_at g_q0 rfl (g_at g_q0 rfl ⟨(by decide), (g_at g_q0 rfl (g_at g_q0 rfl (g_at g_q0 rfl ⟨fun c1 => (g_at g_q0 rfl (g_at g_q0 rfl ⟨(by decide), (h.1 c1)⟩)), fun c1 => (g_at g_q0 rfl (g_at g_q0 rfl (g_at g_q0 rfl ⟨(by decide), (h.2 c1).1, (g_at g_q0 rfl (g_at g_q0 rfl (g_at g_q0 rfl ⟨fun c2 => (g_at g_q0 rfl (g_at g_q0 rfl ((h.2 c1).2.1 c2))), fun c3 => ((h.2 c1).2.2.1 c3), fun c4 => ((h.2 c1).2.2.2.1 c4), fun c5 => ((h.2 c1).2.2.2.2.1 c5), fun c6 => ((h.2 c1).2.2.2.2.2.1 c6), fun c7 => ((h.2 c1).2.2.2.2.2.2.1 c7), fun c8 => ((h.2 c1).2.2.2.2.2.2.2.1 c8), fun c9 => ((h.2 c1).2.2.2.2.2.2.2.2.1 c9), fun c10 => ((h.2 c1).2.2.2.2.2.2.2.2.2.1 c10), fun c11 => ((h.2 c1).2.2.2.2.2.2.2.2.2.2.1 c11), fun c12 => ((h.2 c1).2.2.2.2.2.2.2.2.2.2.2.1 c12), fun c13 => ((h.2 c1).2.2.2.2.2.2.2.2.2.2.2.2.1 c13), fun c14 => ((h.2 c1).2.2.2.2.2.2.2.2.2.2.2.2.2.1 c14), fun c15 => ((h.2 c1).2.2.2.2.2.2.2.2.2.2.2.2.2.2.1 c15), fun c16 => ((h.2 c1).2.2.2.2.2.2.2.2.2.2.2.2.2.2.2.1 c16), fun c17 => ((h.2 c1).2.2.2.2.2.2.2.2.2.2.2.2.2.2.2.2.1 c17), fun c18 => ((h.2 c1).2.2.2.2.2.2.2.2.2.2.2.2.2.2.2.2.2.1 c18), fun c19 => ((h.2 c1).2.2.2.2.2.2.2.2.2.2.2.2.2.2.2.2.2.2.1 c19), fun c20 => ((h.2 c1).2.2.2.2.2.2.2.2.2.2.2.2.2.2.2.2.2.2.2.1 c20), fun c21 => ((h.2 c1).2.2.2.2.2.2.2.2.2.2.2.2.2.2.2.2.2.2.2.2.1 c21), fun c22 => ((h.2 c1).2.2.2.2.2.2.2.2.2.2.2.2.2.2.2.2.2.2.2.2.2.1 c22), fun c23 => ((h.2 c1).2.2.2.2.2.2.2.2.2.2.2.2.2.2.2.2.2.2.2.2.2.2.1 c23), fun c24 => ((h.2 c1).2.2.2.2.2.2.2.2.2.2.2.2.2.2.2.2.2.2.2.2.2.2.2.1 c24), fun c25 => ((h.2 c1).2.2.2.2.2.2.2.2.2.2.2.2.2.2.2.2.2.2.2.2.2.2.2.2.1 c25), fun c26 => ((h.2 c1).2.2.2.2.2.2.2.2.2.2.2.2.2.2.2.2.2.2.2.2.2.2.2.2.2.1 c26), fun c27 => ((h.2 c1).2.2.2.2.2.2.2.2.2.2.2.2.2.2.2.2.2.2.2.2.2.2.2.2.2.2.1 c27), fun c28 => ((h.2 c1).2.2.2.2.2.2.2.2.2.2.2.2.2.2.2.2.2.2.2.2.2.2.2.2.2.2.2.1 c28), fun c29 => ((h.2 c1).2.2.2.2.2.2.2.2.2.2.2.2.2.2.2.2.2.2.2.2.2.2.2.2.2.2.2.2.1 c29), fun c30 => ((h.2 c1).2.2.2.2.2.2.2.2.2.2.2.2.2.2.2.2.2.2.2.2.2.2.2.2.2.2.2.2.2.1 c30), fun c31 => ((h.2 c1).2.2.2.2.2.2.2.2.2.2.2.2.2.2.2.2.2.2.2.2.2.2.2.2.2.2.2.2.2.2.1 c31), fun c32 => ((h.2 c1).2.2.2.2.2.2.2.2.2.2.2.2.2.2.2.2.2.2.2.2.2.2.2.2.2.2.2.2.2.2.2.1 c32), trivial⟩)))⟩)))⟩)))⟩)))
set_option maxRecDepth 20000 in
theorem t0_168 {E : g_E} {O : g_O} {R : g_R} {σ : g_S} {x3 : Int32}  (h : vp_in (x3 + (1 : Int32)) E.2 ∧ vp_in (x3 + (2 : Int32)) E.2 ∧ vp_in (x3 + (3 : Int32)) E.2 ∧ O 69 [.ref 0, .int (E.1 ((x3 + (1 : Int32)).toNatClampNeg)), .int (E.1 ((x3 + (2 : Int32)).toNatClampNeg)), .int (E.1 ((x3 + (3 : Int32)).toNatClampNeg))] σ (g_ri fun r35 s33 => vp_in (x3 + (1 : Int32)) E.2 ∧ vp_in (x3 + (2 : Int32)) E.2 ∧ vp_in (x3 + (3 : Int32)) E.2 ∧ O 110 [.ref 68, .int (E.1 ((x3 + (1 : Int32)).toNatClampNeg)), .int (E.1 ((x3 + (2 : Int32)).toNatClampNeg)), .int (E.1 ((x3 + (3 : Int32)).toNatClampNeg))] s33 (g_ri fun r38 s36 => ((r35 = r38 → g_g E O 0 18 [some (.retAddr 99), some (.ref 0), some (.ref 68), some (.int (x3 + (7 : Int32)))] [] s36 R) ∧ (¬ (r35 = r38) → R (some (.int 0)) s36))))) : g_g E O 0 168 [some (.retAddr 99), some (.ref 0), some (.ref 68), some (.int x3)] [] σ R :=
  (g_at g_q0 rfl (g_at g_q0 rfl (g_at g_q0 rfl (g_at g_q0 rfl (g_at g_q0 rfl (g_at g_q0 rfl ⟨(by decide), h.1, (g_at g_q0 rfl (g_at g_q0 rfl (g_at g_q0 rfl (g_at g_q0 rfl (g_at g_q0 rfl ⟨(by decide), h.2.1, (g_at g_q0 rfl (g_at g_q0 rfl (g_at g_q0 rfl (g_at g_q0 rfl (g_at g_q0 rfl ⟨(by decide), h.2.2.1, (g_at g_q0 rfl ⟨rfl, rfl, rfl, _, h.2.2.2, g_c1 (fun r35 s33 h34 => (g_at g_q0 rfl (g_at g_q0 rfl (g_at g_q0 rfl (g_at g_q0 rfl (g_at g_q0 rfl (g_at g_q0 rfl ⟨(by decide), h34.1, (g_at g_q0 rfl (g_at g_q0 rfl (g_at g_q0 rfl (g_at g_q0 rfl (g_at g_q0 rfl ⟨(by decide), h34.2.1, (g_at g_q0 rfl (g_at g_q0 rfl (g_at g_q0 rfl (g_at g_q0 rfl (g_at g_q0 rfl ⟨(by decide), h34.2.2.1, (g_at g_q0 rfl ⟨rfl, rfl, rfl, _, h34.2.2.2, g_c1 (fun r38 s36 h37 => (g_at g_q0 rfl ⟨fun c39 => (g_at g_q0 rfl (g_at g_q0 rfl (h37.1 c39))), fun c39 => (g_at g_q0 rfl (g_at g_q0 rfl ⟨(by decide), (h37.2 c39)⟩))⟩))⟩)⟩)))))⟩)))))⟩)))))))⟩)⟩)))))⟩)))))⟩))))))
set_option maxRecDepth 20000 in
theorem t0_211 {E : g_E} {O : g_O} {R : g_R} {σ : g_S} {x3 : Int32}  (h : vp_in (x3 + (1 : Int32)) E.2 ∧ vp_in (x3 + (2 : Int32)) E.2 ∧ vp_in (x3 + (3 : Int32)) E.2 ∧ O 70 [.ref 0, .int (E.1 ((x3 + (1 : Int32)).toNatClampNeg)), .int (E.1 ((x3 + (2 : Int32)).toNatClampNeg)), .int (E.1 ((x3 + (3 : Int32)).toNatClampNeg))] σ (g_ri fun r42 s40 => vp_in (x3 + (1 : Int32)) E.2 ∧ vp_in (x3 + (2 : Int32)) E.2 ∧ vp_in (x3 + (3 : Int32)) E.2 ∧ O 111 [.ref 68, .int (E.1 ((x3 + (1 : Int32)).toNatClampNeg)), .int (E.1 ((x3 + (2 : Int32)).toNatClampNeg)), .int (E.1 ((x3 + (3 : Int32)).toNatClampNeg))] s40 (g_ri fun r45 s43 => ((r42 = r45 → g_g E O 0 18 [some (.retAddr 99), some (.ref 0), some (.ref 68), some (.int (x3 + (7 : Int32)))] [] s43 R) ∧ (¬ (r42 = r45) → R (some (.int 0)) s43))))) : g_g E O 0 211 [some (.retAddr 99), some (.ref 0), some (.ref 68), some (.int x3)] [] σ R :=
  (g_at g_q0 rfl (g_at g_q0 rfl (g_at g_q0 rfl (g_at g_q0 rfl (g_at g_q0 rfl (g_at g_q0 rfl ⟨(by decide), h.1, (g_at g_q0 rfl (g_at g_q0 rfl (g_at g_q0 rfl (g_at g_q0 rfl (g_at g_q0 rfl ⟨(by decide), h.2.1, (g_at g_q0 rfl (g_at g_q0 rfl (g_at g_q0 rfl (g_at g_q0 rfl (g_at g_q0 rfl ⟨(by decide), h.2.2.1, (g_at g_q0 rfl ⟨rfl, rfl, rfl, _, h.2.2.2, g_c1 (fun r42 s40 h41 => (g_at g_q0 rfl (g_at g_q0 rfl (g_at g_q0 rfl (g_at g_q0 rfl (g_at g_q0 rfl (g_at g_q0 rfl ⟨(by decide), h41.1, (g_at g_q0 rfl (g_at g_q0 rfl (g_at g_q0 rfl (g_at g_q0 rfl (g_at g_q0 rfl ⟨(by decide), h41.2.1, (g_at g_q0 rfl (g_at g_q0 rfl (g_at g_q0 rfl (g_at g_q0 rfl (g_at g_q0 rfl ⟨(by decide), h41.2.2.1, (g_at g_q0 rfl ⟨rfl, rfl, rfl, _, h41.2.2.2, g_c1 (fun r45 s43 h44 => (g_at g_q0 rfl ⟨fun c46 => (g_at g_q0 rfl (g_at g_q0 rfl (h44.1 c46))), fun c46 => (g_at g_q0 rfl (g_at g_q0 rfl ⟨(by decide), (h44.2 c46)⟩))⟩))⟩)⟩)))))⟩)))))⟩)))))))⟩)⟩)))))⟩)))))⟩))))))
set_option maxRecDepth 20000 in
theorem t0_254 {E : g_E} {O : g_O} {R : g_R} {σ : g_S} {x3 : Int32}  (h : vp_in (x3 + (1 : Int32)) E.2 ∧ vp_in (x3 + (2 : Int32)) E.2 ∧ vp_in (x3 + (3 : Int32)) E.2 ∧ vp_in (x3 + (4 : Int32)) E.2 ∧ vp_in (x3 + (5 : Int32)) E.2 ∧ O 71 [.ref 0, .int (E.1 ((x3 + (1 : Int32)).toNatClampNeg)), .int (E.1 ((x3 + (2 : Int32)).toNatClampNeg)), .int (E.1 ((x3 + (3 : Int32)).toNatClampNeg)), .int (E.1 ((x3 + (4 : Int32)).toNatClampNeg)), .int (E.1 ((x3 + (5 : Int32)).toNatClampNeg))] σ (g_ri fun r49 s47 => vp_in (x3 + (1 : Int32)) E.2 ∧ vp_in (x3 + (2 : Int32)) E.2 ∧ vp_in (x3 + (3 : Int32)) E.2 ∧ vp_in (x3 + (4 : Int32)) E.2 ∧ vp_in (x3 + (5 : Int32)) E.2 ∧ O 112 [.ref 68, .int (E.1 ((x3 + (1 : Int32)).toNatClampNeg)), .int (E.1 ((x3 + (2 : Int32)).toNatClampNeg)), .int (E.1 ((x3 + (3 : Int32)).toNatClampNeg)), .int (E.1 ((x3 + (4 : Int32)).toNatClampNeg)), .int (E.1 ((x3 + (5 : Int32)).toNatClampNeg))] s47 (g_ri fun r52 s50 => ((r49 = r52 → g_g E O 0 18 [some (.retAddr 99), some (.ref 0), some (.ref 68), some (.int (x3 + (7 : Int32)))] [] s50 R) ∧ (¬ (r49 = r52) → R (some (.int 0)) s50))))) : g_g E O 0 254 [some (.retAddr 99), some (.ref 0), some (.ref 68), some (.int x3)] [] σ R :=
  (g_at g_q0 rfl (g_at g_q0 rfl (g_at g_q0 rfl (g_at g_q0 rfl (g_at g_q0 rfl (g_at g_q0 rfl ⟨(by decide), h.1, (g_at g_q0 rfl (g_at g_q0 rfl (g_at g_q0 rfl (g_at g_q0 rfl (g_at g_q0 rfl ⟨(by decide), h.2.1, (g_at g_q0 rfl (g_at g_q0 rfl (g_at g_q0 rfl (g_at g_q0 rfl (g_at g_q0 rfl ⟨(by decide), h.2.2.1, (g_at g_q0 rfl (g_at g_q0 rfl (g_at g_q0 rfl (g_at g_q0 rfl (g_at g_q0 rfl ⟨(by decide), h.2.2.2.1, (g_at g_q0 rfl (g_at g_q0 rfl (g_at g_q0 rfl (g_at g_q0 rfl (g_at g_q0 rfl ⟨(by decide), h.2.2.2.2.1, (g_at g_q0 rfl ⟨rfl, rfl, rfl, _, h.2.2.2.2.2, g_c1 (fun r49 s47 h48 => (g_at g_q0 rfl (g_at g_q0 rfl (g_at g_q0 rfl (g_at g_q0 rfl (g_at g_q0 rfl (g_at g_q0 rfl ⟨(by decide), h48.1, (g_at g_q0 rfl (g_at g_q0 rfl (g_at g_q0 rfl (g_at g_q0 rfl (g_at g_q0 rfl ⟨(by decide), h48.2.1, (g_at g_q0 rfl (g_at g_q0 rfl (g_at g_q0 rfl (g_at g_q0 rfl (g_at g_q0 rfl ⟨(by decide), h48.2.2.1, (g_at g_q0 rfl (g_at g_q0 rfl (g_at g_q0 rfl (g_at g_q0 rfl (g_at g_q0 rfl ⟨(by decide), h48.2.2.2.1, (g_at g_q0 rfl (g_at g_q0 rfl (g_at g_q0 rfl (g_at g_q0 rfl (g_at g_q0 rfl ⟨(by decide), h48.2.2.2.2.1, (g_at g_q0 rfl ⟨rfl, rfl, rfl, _, h48.2.2.2.2.2, g_c1 (fun r52 s50 h51 => (g_at g_q0 rfl ⟨fun c53 => (g_at g_q0 rfl (g_at g_q0 rfl (h51.1 c53))), fun c53 => (g_at g_q0 rfl (g_at g_q0 rfl ⟨(by decide), (h51.2 c53)⟩))⟩))⟩)⟩)))))⟩)))))⟩)))))⟩)))))⟩)))))))⟩)⟩)))))⟩)))))⟩)))))⟩)))))⟩))))))
set_option maxRecDepth 20000 in
theorem t0_317 {E : g_E} {O : g_O} {R : g_R} {σ : g_S} {x3 : Int32}  (h : vp_in (x3 + (1 : Int32)) E.2 ∧ O 72 [.ref 0, .int (E.1 ((x3 + (1 : Int32)).toNatClampNeg))] σ (g_ri fun r56 s54 => vp_in (x3 + (1 : Int32)) E.2 ∧ O 113 [.ref 68, .int (E.1 ((x3 + (1 : Int32)).toNatClampNeg))] s54 (g_ri fun r59 s57 => ((r56 = r59 → g_g E O 0 18 [some (.retAddr 99), some (.ref 0), some (.ref 68), some (.int (x3 + (7 : Int32)))] [] s57 R) ∧ (¬ (r56 = r59) → R (some (.int 0)) s57))))) : g_g E O 0 317 [some (.retAddr 99), some (.ref 0), some (.ref 68), some (.int x3)] [] σ R :=
  (g_at g_q0 rfl (g_at g_q0 rfl (g_at g_q0 rfl (g_at g_q0 rfl (g_at g_q0 rfl (g_at g_q0 rfl ⟨(by decide), h.1, (g_at g_q0 rfl ⟨rfl, rfl, rfl, _, h.2, g_c1 (fun r56 s54 h55 => (g_at g_q0 rfl (g_at g_q0 rfl (g_at g_q0 rfl (g_at g_q0 rfl (g_at g_q0 rfl (g_at g_q0 rfl ⟨(by decide), h55.1, (g_at g_q0 rfl ⟨rfl, rfl, rfl, _, h55.2, g_c1 (fun r59 s57 h58 => (g_at g_q0 rfl ⟨fun c60 => (g_at g_q0 rfl (g_at g_q0 rfl (h58.1 c60))), fun c60 => (g_at g_q0 rfl (g_at g_q0 rfl ⟨(by decide), (h58.2 c60)⟩))⟩))⟩)⟩)))))))⟩)⟩))))))
set_option maxRecDepth 20000 in
theorem t0_340 {E : g_E} {O : g_O} {R : g_R} {σ : g_S} {x3 : Int32}  (h : vp_in (x3 + (1 : Int32)) E.2 ∧ vp_in (x3 + (2 : Int32)) E.2 ∧ vp_in (x3 + (3 : Int32)) E.2 ∧ O 73 [.ref 0, .long ((((E.1 ((x3 + (1 : Int32)).toNatClampNeg)).toInt64) <<< ((32 : Int32).toInt64 &&& 63)) ||| (((E.1 ((x3 + (2 : Int32)).toNatClampNeg)).toInt64) &&& (4294967295 : Int64))), .int (E.1 ((x3 + (3 : Int32)).toNatClampNeg))] σ (g_ri fun r63 s61 => vp_in (x3 + (1 : Int32)) E.2 ∧ vp_in (x3 + (2 : Int32)) E.2 ∧ vp_in (x3 + (3 : Int32)) E.2 ∧ O 114 [.ref 68, .long ((((E.1 ((x3 + (1 : Int32)).toNatClampNeg)).toInt64) <<< ((32 : Int32).toInt64 &&& 63)) ||| (((E.1 ((x3 + (2 : Int32)).toNatClampNeg)).toInt64) &&& (4294967295 : Int64))), .int (E.1 ((x3 + (3 : Int32)).toNatClampNeg))] s61 (g_ri fun r66 s64 => ((r63 = r66 → g_g E O 0 18 [some (.retAddr 99), some (.ref 0), some (.ref 68), some (.int (x3 + (7 : Int32)))] [] s64 R) ∧ (¬ (r63 = r66) → R (some (.int 0)) s64))))) : g_g E O 0 340 [some (.retAddr 99), some (.ref 0), some (.ref 68), some (.int x3)] [] σ R :=
  (g_at g_q0 rfl (g_at g_q0 rfl (g_at g_q0 rfl (g_at g_q0 rfl (g_at g_q0 rfl (g_at g_q0 rfl ⟨(by decide), h.1, (g_at g_q0 rfl (g_at g_q0 rfl (g_at g_q0 rfl (g_at g_q0 rfl (g_at g_q0 rfl (g_at g_q0 rfl (g_at g_q0 rfl (g_at g_q0 rfl ⟨(by decide), h.2.1, (g_at g_q0 rfl (g_at g_q0 rfl (g_at g_q0 rfl (g_at g_q0 rfl (g_at g_q0 rfl (g_at g_q0 rfl (g_at g_q0 rfl (g_at g_q0 rfl (g_at g_q0 rfl ⟨(by decide), h.2.2.1, (g_at g_q0 rfl ⟨rfl, rfl, rfl, _, h.2.2.2, g_c1 (fun r63 s61 h62 => (g_at g_q0 rfl (g_at g_q0 rfl (g_at g_q0 rfl (g_at g_q0 rfl (g_at g_q0 rfl (g_at g_q0 rfl ⟨(by decide), h62.1, (g_at g_q0 rfl (g_at g_q0 rfl (g_at g_q0 rfl (g_at g_q0 rfl (g_at g_q0 rfl (g_at g_q0 rfl (g_at g_q0 rfl (g_at g_q0 rfl ⟨(by decide), h62.2.1, (g_at g_q0 rfl (g_at g_q0 rfl (g_at g_q0 rfl (g_at g_q0 rfl (g_at g_q0 rfl (g_at g_q0 rfl (g_at g_q0 rfl (g_at g_q0 rfl (g_at g_q0 rfl ⟨(by decide), h62.2.2.1, (g_at g_q0 rfl ⟨rfl, rfl, rfl, _, h62.2.2.2, g_c1 (fun r66 s64 h65 => (g_at g_q0 rfl ⟨fun c67 => (g_at g_q0 rfl (g_at g_q0 rfl (h65.1 c67))), fun c67 => (g_at g_q0 rfl (g_at g_q0 rfl ⟨(by decide), (h65.2 c67)⟩))⟩))⟩)⟩)))))))))⟩))))))))⟩)))))))⟩)⟩)))))))))⟩))))))))⟩))))))
set_option maxRecDepth 20000 in
theorem t0_403 {E : g_E} {O : g_O} {R : g_R} {σ : g_S} {x3 : Int32}  (h : O 74 [.ref 0] σ (g_ri fun r70 s68 => O 132 [.ref 68] s68 (g_ri fun r73 s71 => ((r70 = r73 → g_g E O 0 18 [some (.retAddr 99), some (.ref 0), some (.ref 68), some (.int (x3 + (7 : Int32)))] [] s71 R) ∧ (¬ (r70 = r73) → R (some (.int 0)) s71))))) : g_g E O 0 403 [some (.retAddr 99), some (.ref 0), some (.ref 68), some (.int x3)] [] σ R :=
  (g_at g_q0 rfl (g_at g_q0 rfl ⟨rfl, rfl, rfl, _, h, g_c1 (fun r70 s68 h69 => (g_at g_q0 rfl (g_at g_q0 rfl ⟨rfl, rfl, rfl, _, h69, g_c1 (fun r73 s71 h72 => (g_at g_q0 rfl ⟨fun c74 => (g_at g_q0 rfl (g_at g_q0 rfl (h72.1 c74))), fun c74 => (g_at g_q0 rfl (g_at g_q0 rfl ⟨(by decide), (h72.2 c74)⟩))⟩))⟩)))⟩))
set_option maxRecDepth 20000 in
theorem t0_416 {E : g_E} {O : g_O} {R : g_R} {σ : g_S} {x3 : Int32}  (h : O 75 [.ref 0] σ (g_ri fun r77 s75 => O 133 [.ref 68] s75 (g_ri fun r80 s78 => ((r77 = r80 → g_g E O 0 18 [some (.retAddr 99), some (.ref 0), some (.ref 68), some (.int (x3 + (7 : Int32)))] [] s78 R) ∧ (¬ (r77 = r80) → R (some (.int 0)) s78))))) : g_g E O 0 416 [some (.retAddr 99), some (.ref 0), some (.ref 68), some (.int x3)] [] σ R :=
  (g_at g_q0 rfl (g_at g_q0 rfl ⟨rfl, rfl, rfl, _, h, g_c1 (fun r77 s75 h76 => (g_at g_q0 rfl (g_at g_q0 rfl ⟨rfl, rfl, rfl, _, h76, g_c1 (fun r80 s78 h79 => (g_at g_q0 rfl ⟨fun c81 => (g_at g_q0 rfl (g_at g_q0 rfl (h79.1 c81))), fun c81 => (g_at g_q0 rfl (g_at g_q0 rfl ⟨(by decide), (h79.2 c81)⟩))⟩))⟩)))⟩))
set_option maxRecDepth 20000 in
theorem t0_429 {E : g_E} {O : g_O} {R : g_R} {σ : g_S} {x3 : Int32}  (h : vp_in (x3 + (1 : Int32)) E.2 ∧ O 76 [.ref 0, .int (E.1 ((x3 + (1 : Int32)).toNatClampNeg))] σ (g_ri fun r84 s82 => vp_in (x3 + (1 : Int32)) E.2 ∧ O 139 [.ref 68, .int (E.1 ((x3 + (1 : Int32)).toNatClampNeg))] s82 (g_ri fun r87 s85 => ((r84 = r87 → g_g E O 0 18 [some (.retAddr 99), some (.ref 0), some (.ref 68), some (.int (x3 + (7 : Int32)))] [] s85 R) ∧ (¬ (r84 = r87) → R (some (.int 0)) s85))))) : g_g E O 0 429 [some (.retAddr 99), some (.ref 0), some (.ref 68), some (.int x3)] [] σ R :=
  (g_at g_q0 rfl (g_at g_q0 rfl (g_at g_q0 rfl (g_at g_q0 rfl (g_at g_q0 rfl (g_at g_q0 rfl ⟨(by decide), h.1, (g_at g_q0 rfl ⟨rfl, rfl, rfl, _, h.2, g_c1 (fun r84 s82 h83 => (g_at g_q0 rfl (g_at g_q0 rfl (g_at g_q0 rfl (g_at g_q0 rfl (g_at g_q0 rfl (g_at g_q0 rfl ⟨(by decide), h83.1, (g_at g_q0 rfl ⟨rfl, rfl, rfl, _, h83.2, g_c1 (fun r87 s85 h86 => (g_at g_q0 rfl ⟨fun c88 => (g_at g_q0 rfl (g_at g_q0 rfl (h86.1 c88))), fun c88 => (g_at g_q0 rfl (g_at g_q0 rfl ⟨(by decide), (h86.2 c88)⟩))⟩))⟩)⟩)))))))⟩)⟩))))))
set_option maxRecDepth 20000 in
theorem t0_452 {E : g_E} {O : g_O} {R : g_R} {σ : g_S} {x3 : Int32}  (h : vp_in (x3 + (1 : Int32)) E.2 ∧ vp_in (x3 + (2 : Int32)) E.2 ∧ O 77 [.ref 0, .int (E.1 ((x3 + (1 : Int32)).toNatClampNeg)), .int (E.1 ((x3 + (2 : Int32)).toNatClampNeg))] σ (g_ri fun r91 s89 => vp_in (x3 + (1 : Int32)) E.2 ∧ vp_in (x3 + (2 : Int32)) E.2 ∧ O 140 [.ref 68, .int (E.1 ((x3 + (1 : Int32)).toNatClampNeg)), .int (E.1 ((x3 + (2 : Int32)).toNatClampNeg))] s89 (g_ri fun r94 s92 => ((r91 = r94 → g_g E O 0 18 [some (.retAddr 99), some (.ref 0), some (.ref 68), some (.int (x3 + (7 : Int32)))] [] s92 R) ∧ (¬ (r91 = r94) → R (some (.int 0)) s92))))) : g_g E O 0 452 [some (.retAddr 99), some (.ref 0), some (.ref 68), some (.int x3)] [] σ R :=
  (g_at g_q0 rfl (g_at g_q0 rfl (g_at g_q0 rfl (g_at g_q0 rfl (g_at g_q0 rfl (g_at g_q0 rfl ⟨(by decide), h.1, (g_at g_q0 rfl (g_at g_q0 rfl (g_at g_q0 rfl (g_at g_q0 rfl (g_at g_q0 rfl ⟨(by decide), h.2.1, (g_at g_q0 rfl ⟨rfl, rfl, rfl, _, h.2.2, g_c1 (fun r91 s89 h90 => (g_at g_q0 rfl (g_at g_q0 rfl (g_at g_q0 rfl (g_at g_q0 rfl (g_at g_q0 rfl (g_at g_q0 rfl ⟨(by decide), h90.1, (g_at g_q0 rfl (g_at g_q0 rfl (g_at g_q0 rfl (g_at g_q0 rfl (g_at g_q0 rfl ⟨(by decide), h90.2.1, (g_at g_q0 rfl ⟨rfl, rfl, rfl, _, h90.2.2, g_c1 (fun r94 s92 h93 => (g_at g_q0 rfl ⟨fun c95 => (g_at g_q0 rfl (g_at g_q0 rfl (h93.1 c95))), fun c95 => (g_at g_q0 rfl (g_at g_q0 rfl ⟨(by decide), (h93.2 c95)⟩))⟩))⟩)⟩)))))⟩)))))))⟩)⟩)))))⟩))))))
set_option maxRecDepth 20000 in
theorem t0_485 {E : g_E} {O : g_O} {R : g_R} {σ : g_S} {x3 : Int32}  (h : vp_in (x3 + (1 : Int32)) E.2 ∧ vp_in (x3 + (2 : Int32)) E.2 ∧ O 78 [.ref 0, .int (E.1 ((x3 + (1 : Int32)).toNatClampNeg)), .int (E.1 ((x3 + (2 : Int32)).toNatClampNeg))] σ (g_ri fun r98 s96 => vp_in (x3 + (1 : Int32)) E.2 ∧ vp_in (x3 + (2 : Int32)) E.2 ∧ O 141 [.ref 68, .int (E.1 ((x3 + (1 : Int32)).toNatClampNeg)), .int (E.1 ((x3 + (2 : Int32)).toNatClampNeg))] s96 (g_ri fun r101 s99 => ((r98 = r101 → g_g E O 0 18 [some (.retAddr 99), some (.ref 0), some (.ref 68), some (.int (x3 + (7 : Int32)))] [] s99 R) ∧ (¬ (r98 = r101) → R (some (.int 0)) s99))))) : g_g E O 0 485 [some (.retAddr 99), some (.ref 0), some (.ref 68), some (.int x3)] [] σ R :=
  (g_at g_q0 rfl (g_at g_q0 rfl (g_at g_q0 rfl (g_at g_q0 rfl (g_at g_q0 rfl (g_at g_q0 rfl ⟨(by decide), h.1, (g_at g_q0 rfl (g_at g_q0 rfl (g_at g_q0 rfl (g_at g_q0 rfl (g_at g_q0 rfl ⟨(by decide), h.2.1, (g_at g_q0 rfl ⟨rfl, rfl, rfl, _, h.2.2, g_c1 (fun r98 s96 h97 => (g_at g_q0 rfl (g_at g_q0 rfl (g_at g_q0 rfl (g_at g_q0 rfl (g_at g_q0 rfl (g_at g_q0 rfl ⟨(by decide), h97.1, (g_at g_q0 rfl (g_at g_q0 rfl (g_at g_q0 rfl (g_at g_q0 rfl (g_at g_q0 rfl ⟨(by decide), h97.2.1, (g_at g_q0 rfl ⟨rfl, rfl, rfl, _, h97.2.2, g_c1 (fun r101 s99 h100 => (g_at g_q0 rfl ⟨fun c102 => (g_at g_q0 rfl (g_at g_q0 rfl (h100.1 c102))), fun c102 => (g_at g_q0 rfl (g_at g_q0 rfl ⟨(by decide), (h100.2 c102)⟩))⟩))⟩)⟩)))))⟩)))))))⟩)⟩)))))⟩))))))
set_option maxRecDepth 20000 in
theorem t0_518 {E : g_E} {O : g_O} {R : g_R} {σ : g_S} {x3 : Int32}  (h : vp_in (x3 + (1 : Int32)) E.2 ∧ vp_in (x3 + (2 : Int32)) E.2 ∧ O 79 [.ref 0, .int (E.1 ((x3 + (1 : Int32)).toNatClampNeg)), .int (E.1 ((x3 + (2 : Int32)).toNatClampNeg))] σ (g_ri fun r105 s103 => vp_in (x3 + (1 : Int32)) E.2 ∧ vp_in (x3 + (2 : Int32)) E.2 ∧ O 143 [.ref 68, .int (E.1 ((x3 + (1 : Int32)).toNatClampNeg)), .int (E.1 ((x3 + (2 : Int32)).toNatClampNeg))] s103 (g_ri fun r108 s106 => ((r105 = r108 → g_g E O 0 18 [some (.retAddr 99), some (.ref 0), some (.ref 68), some (.int (x3 + (7 : Int32)))] [] s106 R) ∧ (¬ (r105 = r108) → R (some (.int 0)) s106))))) : g_g E O 0 518 [some (.retAddr 99), some (.ref 0), some (.ref 68), some (.int x3)] [] σ R :=
  (g_at g_q0 rfl (g_at g_q0 rfl (g_at g_q0 rfl (g_at g_q0 rfl (g_at g_q0 rfl (g_at g_q0 rfl ⟨(by decide), h.1, (g_at g_q0 rfl (g_at g_q0 rfl (g_at g_q0 rfl (g_at g_q0 rfl (g_at g_q0 rfl ⟨(by decide), h.2.1, (g_at g_q0 rfl ⟨rfl, rfl, rfl, _, h.2.2, g_c1 (fun r105 s103 h104 => (g_at g_q0 rfl (g_at g_q0 rfl (g_at g_q0 rfl (g_at g_q0 rfl (g_at g_q0 rfl (g_at g_q0 rfl ⟨(by decide), h104.1, (g_at g_q0 rfl (g_at g_q0 rfl (g_at g_q0 rfl (g_at g_q0 rfl (g_at g_q0 rfl ⟨(by decide), h104.2.1, (g_at g_q0 rfl ⟨rfl, rfl, rfl, _, h104.2.2, g_c1 (fun r108 s106 h107 => (g_at g_q0 rfl ⟨fun c109 => (g_at g_q0 rfl (g_at g_q0 rfl (h107.1 c109))), fun c109 => (g_at g_q0 rfl (g_at g_q0 rfl ⟨(by decide), (h107.2 c109)⟩))⟩))⟩)⟩)))))⟩)))))))⟩)⟩)))))⟩))))))
set_option maxRecDepth 20000 in
theorem t0_551 {E : g_E} {O : g_O} {R : g_R} {σ : g_S} {x3 : Int32}  (h : vp_in (x3 + (1 : Int32)) E.2 ∧ vp_in (x3 + (2 : Int32)) E.2 ∧ vp_in (x3 + (3 : Int32)) E.2 ∧ O 80 [.ref 0, .int (E.1 ((x3 + (1 : Int32)).toNatClampNeg)), .int (E.1 ((x3 + (2 : Int32)).toNatClampNeg)), .int (E.1 ((x3 + (3 : Int32)).toNatClampNeg))] σ (g_ri fun r112 s110 => vp_in (x3 + (1 : Int32)) E.2 ∧ vp_in (x3 + (2 : Int32)) E.2 ∧ vp_in (x3 + (3 : Int32)) E.2 ∧ O 145 [.ref 68, .int (E.1 ((x3 + (1 : Int32)).toNatClampNeg)), .int (E.1 ((x3 + (2 : Int32)).toNatClampNeg)), .int (E.1 ((x3 + (3 : Int32)).toNatClampNeg))] s110 (g_ri fun r115 s113 => ((r112 = r115 → g_g E O 0 18 [some (.retAddr 99), some (.ref 0), some (.ref 68), some (.int (x3 + (7 : Int32)))] [] s113 R) ∧ (¬ (r112 = r115) → R (some (.int 0)) s113))))) : g_g E O 0 551 [some (.retAddr 99), some (.ref 0), some (.ref 68), some (.int x3)] [] σ R :=
  (g_at g_q0 rfl (g_at g_q0 rfl (g_at g_q0 rfl (g_at g_q0 rfl (g_at g_q0 rfl (g_at g_q0 rfl ⟨(by decide), h.1, (g_at g_q0 rfl (g_at g_q0 rfl (g_at g_q0 rfl (g_at g_q0 rfl (g_at g_q0 rfl ⟨(by decide), h.2.1, (g_at g_q0 rfl (g_at g_q0 rfl (g_at g_q0 rfl (g_at g_q0 rfl (g_at g_q0 rfl ⟨(by decide), h.2.2.1, (g_at g_q0 rfl ⟨rfl, rfl, rfl, _, h.2.2.2, g_c1 (fun r112 s110 h111 => (g_at g_q0 rfl (g_at g_q0 rfl (g_at g_q0 rfl (g_at g_q0 rfl (g_at g_q0 rfl (g_at g_q0 rfl ⟨(by decide), h111.1, (g_at g_q0 rfl (g_at g_q0 rfl (g_at g_q0 rfl (g_at g_q0 rfl (g_at g_q0 rfl ⟨(by decide), h111.2.1, (g_at g_q0 rfl (g_at g_q0 rfl (g_at g_q0 rfl (g_at g_q0 rfl (g_at g_q0 rfl ⟨(by decide), h111.2.2.1, (g_at g_q0 rfl ⟨rfl, rfl, rfl, _, h111.2.2.2, g_c1 (fun r115 s113 h114 => (g_at g_q0 rfl ⟨fun c116 => (g_at g_q0 rfl (g_at g_q0 rfl (h114.1 c116))), fun c116 => (g_at g_q0 rfl (g_at g_q0 rfl ⟨(by decide), (h114.2 c116)⟩))⟩))⟩)⟩)))))⟩)))))⟩)))))))⟩)⟩)))))⟩)))))⟩))))))
set_option maxRecDepth 20000 in
theorem t0_594 {E : g_E} {O : g_O} {R : g_R} {σ : g_S} {x3 : Int32}  (h : O 81 [.ref 0] σ (g_ri fun r119 s117 => O 146 [.ref 68] s117 (g_ri fun r122 s120 => ((r119 = r122 → g_g E O 0 18 [some (.retAddr 99), some (.ref 0), some (.ref 68), some (.int (x3 + (7 : Int32)))] [] s120 R) ∧ (¬ (r119 = r122) → R (some (.int 0)) s120))))) : g_g E O 0 594 [some (.retAddr 99), some (.ref 0), some (.ref 68), some (.int x3)] [] σ R :=
  (g_at g_q0 rfl (g_at g_q0 rfl ⟨rfl, rfl, rfl, _, h, g_c1 (fun r119 s117 h118 => (g_at g_q0 rfl (g_at g_q0 rfl ⟨rfl, rfl, rfl, _, h118, g_c1 (fun r122 s120 h121 => (g_at g_q0 rfl ⟨fun c123 => (g_at g_q0 rfl (g_at g_q0 rfl (h121.1 c123))), fun c123 => (g_at g_q0 rfl (g_at g_q0 rfl ⟨(by decide), (h121.2 c123)⟩))⟩))⟩)))⟩))
set_option maxRecDepth 20000 in
theorem t0_607 {E : g_E} {O : g_O} {R : g_R} {σ : g_S} {x3 : Int32}  (h : vp_in (x3 + (1 : Int32)) E.2 ∧ vp_in (x3 + (2 : Int32)) E.2 ∧ O 82 [.ref 0, .int (E.1 ((x3 + (1 : Int32)).toNatClampNeg)), .int (E.1 ((x3 + (2 : Int32)).toNatClampNeg))] σ (g_ri fun r126 s124 => vp_in (x3 + (1 : Int32)) E.2 ∧ vp_in (x3 + (2 : Int32)) E.2 ∧ O 150 [.ref 68, .int (E.1 ((x3 + (1 : Int32)).toNatClampNeg)), .int (E.1 ((x3 + (2 : Int32)).toNatClampNeg))] s124 (g_ri fun r129 s127 => ((r126 = r129 → g_g E O 0 18 [some (.retAddr 99), some (.ref 0), some (.ref 68), some (.int (x3 + (7 : Int32)))] [] s127 R) ∧ (¬ (r126 = r129) → R (some (.int 0)) s127))))) : g_g E O 0 607 [some (.retAddr 99), some (.ref 0), some (.ref 68), some (.int x3)] [] σ R :=
  (g_at g_q0 rfl (g_at g_q0 rfl (g_at g_q0 rfl (g_at g_q0 rfl (g_at g_q0 rfl (g_at g_q0 rfl ⟨(by decide), h.1, (g_at g_q0 rfl (g_at g_q0 rfl (g_at g_q0 rfl (g_at g_q0 rfl (g_at g_q0 rfl ⟨(by decide), h.2.1, (g_at g_q0 rfl ⟨rfl, rfl, rfl, _, h.2.2, g_c1 (fun r126 s124 h125 => (g_at g_q0 rfl (g_at g_q0 rfl (g_at g_q0 rfl (g_at g_q0 rfl (g_at g_q0 rfl (g_at g_q0 rfl ⟨(by decide), h125.1, (g_at g_q0 rfl (g_at g_q0 rfl (g_at g_q0 rfl (g_at g_q0 rfl (g_at g_q0 rfl ⟨(by decide), h125.2.1, (g_at g_q0 rfl ⟨rfl, rfl, rfl, _, h125.2.2, g_c1 (fun r129 s127 h128 => (g_at g_q0 rfl ⟨fun c130 => (g_at g_q0 rfl (g_at g_q0 rfl (h128.1 c130))), fun c130 => (g_at g_q0 rfl (g_at g_q0 rfl ⟨(by decide), (h128.2 c130)⟩))⟩))⟩)⟩)))))⟩)))))))⟩)⟩)))))⟩))))))
set_option maxRecDepth 20000 in
theorem t0_640 {E : g_E} {O : g_O} {R : g_R} {σ : g_S} {x3 : Int32}  (h : vp_in (x3 + (1 : Int32)) E.2 ∧ O 83 [.ref 0, .int (E.1 ((x3 + (1 : Int32)).toNatClampNeg))] σ (g_ri fun r133 s131 => vp_in (x3 + (1 : Int32)) E.2 ∧ O 156 [.ref 68, .int (E.1 ((x3 + (1 : Int32)).toNatClampNeg))] s131 (g_ri fun r136 s134 => ((r133 = r136 → g_g E O 0 18 [some (.retAddr 99), some (.ref 0), some (.ref 68), some (.int (x3 + (7 : Int32)))] [] s134 R) ∧ (¬ (r133 = r136) → R (some (.int 0)) s134))))) : g_g E O 0 640 [some (.retAddr 99), some (.ref 0), some (.ref 68), some (.int x3)] [] σ R :=
  (g_at g_q0 rfl (g_at g_q0 rfl (g_at g_q0 rfl (g_at g_q0 rfl (g_at g_q0 rfl (g_at g_q0 rfl ⟨(by decide), h.1, (g_at g_q0 rfl ⟨rfl, rfl, rfl, _, h.2, g_c1 (fun r133 s131 h132 => (g_at g_q0 rfl (g_at g_q0 rfl (g_at g_q0 rfl (g_at g_q0 rfl (g_at g_q0 rfl (g_at g_q0 rfl ⟨(by decide), h132.1, (g_at g_q0 rfl ⟨rfl, rfl, rfl, _, h132.2, g_c1 (fun r136 s134 h135 => (g_at g_q0 rfl ⟨fun c137 => (g_at g_q0 rfl (g_at g_q0 rfl (h135.1 c137))), fun c137 => (g_at g_q0 rfl (g_at g_q0 rfl ⟨(by decide), (h135.2 c137)⟩))⟩))⟩)⟩)))))))⟩)⟩))))))
set_option maxRecDepth 20000 in
theorem t0_663 {E : g_E} {O : g_O} {R : g_R} {σ : g_S} {x3 : Int32}  (h : vp_in (x3 + (1 : Int32)) E.2 ∧ vp_in (x3 + (2 : Int32)) E.2 ∧ O 84 [.ref 0, .int (E.1 ((x3 + (1 : Int32)).toNatClampNeg)), .int (E.1 ((x3 + (2 : Int32)).toNatClampNeg))] σ (g_ri fun r140 s138 => vp_in (x3 + (1 : Int32)) E.2 ∧ vp_in (x3 + (2 : Int32)) E.2 ∧ O 159 [.ref 68, .int (E.1 ((x3 + (1 : Int32)).toNatClampNeg)), .int (E.1 ((x3 + (2 : Int32)).toNatClampNeg))] s138 (g_ri fun r143 s141 => ((r140 = r143 → g_g E O 0 18 [some (.retAddr 99), some (.ref 0), some (.ref 68), some (.int (x3 + (7 : Int32)))] [] s141 R) ∧ (¬ (r140 = r143) → R (some (.int 0)) s141))))) : g_g E O 0 663 [some (.retAddr 99), some (.ref 0), some (.ref 68), some (.int x3)] [] σ R :=
  (g_at g_q0 rfl (g_at g_q0 rfl (g_at g_q0 rfl (g_at g_q0 rfl (g_at g_q0 rfl (g_at g_q0 rfl ⟨(by decide), h.1, (g_at g_q0 rfl (g_at g_q0 rfl (g_at g_q0 rfl (g_at g_q0 rfl (g_at g_q0 rfl ⟨(by decide), h.2.1, (g_at g_q0 rfl ⟨rfl, rfl, rfl, _, h.2.2, g_c1 (fun r140 s138 h139 => (g_at g_q0 rfl (g_at g_q0 rfl (g_at g_q0 rfl (g_at g_q0 rfl (g_at g_q0 rfl (g_at g_q0 rfl ⟨(by decide), h139.1, (g_at g_q0 rfl (g_at g_q0 rfl (g_at g_q0 rfl (g_at g_q0 rfl (g_at g_q0 rfl ⟨(by decide), h139.2.1, (g_at g_q0 rfl ⟨rfl, rfl, rfl, _, h139.2.2, g_c1 (fun r143 s141 h142 => (g_at g_q0 rfl ⟨fun c144 => (g_at g_q0 rfl (g_at g_q0 rfl (h142.1 c144))), fun c144 => (g_at g_q0 rfl (g_at g_q0 rfl ⟨(by decide), (h142.2 c144)⟩))⟩))⟩)⟩)))))⟩)))))))⟩)⟩)))))⟩))))))
set_option maxRecDepth 20000 in
theorem t0_696 {E : g_E} {O : g_O} {R : g_R} {σ : g_S} {x3 : Int32}  (h : vp_in (x3 + (1 : Int32)) E.2 ∧ vp_in (x3 + (2 : Int32)) E.2 ∧ vp_in (x3 + (3 : Int32)) E.2 ∧ O 85 [.ref 0, .int (E.1 ((x3 + (1 : Int32)).toNatClampNeg)), .int (E.1 ((x3 + (2 : Int32)).toNatClampNeg)), .int (E.1 ((x3 + (3 : Int32)).toNatClampNeg))] σ (g_ri fun r147 s145 => vp_in (x3 + (1 : Int32)) E.2 ∧ vp_in (x3 + (2 : Int32)) E.2 ∧ vp_in (x3 + (3 : Int32)) E.2 ∧ O 164 [.ref 68, .int (E.1 ((x3 + (1 : Int32)).toNatClampNeg)), .int (E.1 ((x3 + (2 : Int32)).toNatClampNeg)), .int (E.1 ((x3 + (3 : Int32)).toNatClampNeg))] s145 (g_ri fun r150 s148 => ((r147 = r150 → g_g E O 0 18 [some (.retAddr 99), some (.ref 0), some (.ref 68), some (.int (x3 + (7 : Int32)))] [] s148 R) ∧ (¬ (r147 = r150) → R (some (.int 0)) s148))))) : g_g E O 0 696 [some (.retAddr 99), some (.ref 0), some (.ref 68), some (.int x3)] [] σ R :=
  (g_at g_q0 rfl (g_at g_q0 rfl (g_at g_q0 rfl (g_at g_q0 rfl (g_at g_q0 rfl (g_at g_q0 rfl ⟨(by decide), h.1, (g_at g_q0 rfl (g_at g_q0 rfl (g_at g_q0 rfl (g_at g_q0 rfl (g_at g_q0 rfl ⟨(by decide), h.2.1, (g_at g_q0 rfl (g_at g_q0 rfl (g_at g_q0 rfl (g_at g_q0 rfl (g_at g_q0 rfl ⟨(by decide), h.2.2.1, (g_at g_q0 rfl ⟨rfl, rfl, rfl, _, h.2.2.2, g_c1 (fun r147 s145 h146 => (g_at g_q0 rfl (g_at g_q0 rfl (g_at g_q0 rfl (g_at g_q0 rfl (g_at g_q0 rfl (g_at g_q0 rfl ⟨(by decide), h146.1, (g_at g_q0 rfl (g_at g_q0 rfl (g_at g_q0 rfl (g_at g_q0 rfl (g_at g_q0 rfl ⟨(by decide), h146.2.1, (g_at g_q0 rfl (g_at g_q0 rfl (g_at g_q0 rfl (g_at g_q0 rfl (g_at g_q0 rfl ⟨(by decide), h146.2.2.1, (g_at g_q0 rfl ⟨rfl, rfl, rfl, _, h146.2.2.2, g_c1 (fun r150 s148 h149 => (g_at g_q0 rfl ⟨fun c151 => (g_at g_q0 rfl (g_at g_q0 rfl (h149.1 c151))), fun c151 => (g_at g_q0 rfl (g_at g_q0 rfl ⟨(by decide), (h149.2 c151)⟩))⟩))⟩)⟩)))))⟩)))))⟩)))))))⟩)⟩)))))⟩)))))⟩))))))
set_option maxRecDepth 20000 in
theorem t0_739 {E : g_E} {O : g_O} {R : g_R} {σ : g_S} {x3 : Int32}  (h : vp_in (x3 + (1 : Int32)) E.2 ∧ vp_in (x3 + (2 : Int32)) E.2 ∧ vp_in (x3 + (3 : Int32)) E.2 ∧ vp_in (x3 + (4 : Int32)) E.2 ∧ vp_in (x3 + (5 : Int32)) E.2 ∧ vp_in (x3 + (6 : Int32)) E.2 ∧ O 86 [.ref 0, .int (E.1 ((x3 + (1 : Int32)).toNatClampNeg)), .int (E.1 ((x3 + (2 : Int32)).toNatClampNeg)), .int (E.1 ((x3 + (3 : Int32)).toNatClampNeg)), .int (E.1 ((x3 + (4 : Int32)).toNatClampNeg)), .int (E.1 ((x3 + (5 : Int32)).toNatClampNeg)), .int (E.1 ((x3 + (6 : Int32)).toNatClampNeg))] σ (g_ri fun r154 s152 => vp_in (x3 + (1 : Int32)) E.2 ∧ vp_in (x3 + (2 : Int32)) E.2 ∧ vp_in (x3 + (3 : Int32)) E.2 ∧ vp_in (x3 + (4 : Int32)) E.2 ∧ vp_in (x3 + (5 : Int32)) E.2 ∧ vp_in (x3 + (6 : Int32)) E.2 ∧ O 166 [.ref 68, .int (E.1 ((x3 + (1 : Int32)).toNatClampNeg)), .int (E.1 ((x3 + (2 : Int32)).toNatClampNeg)), .int (E.1 ((x3 + (3 : Int32)).toNatClampNeg)), .int (E.1 ((x3 + (4 : Int32)).toNatClampNeg)), .int (E.1 ((x3 + (5 : Int32)).toNatClampNeg)), .int (E.1 ((x3 + (6 : Int32)).toNatClampNeg))] s152 (g_ri fun r157 s155 => ((r154 = r157 → g_g E O 0 18 [some (.retAddr 99), some (.ref 0), some (.ref 68), some (.int (x3 + (7 : Int32)))] [] s155 R) ∧ (¬ (r154 = r157) → R (some (.int 0)) s155))))) : g_g E O 0 739 [some (.retAddr 99), some (.ref 0), some (.ref 68), some (.int x3)] [] σ R :=
  (g_at g_q0 rfl (g_at g_q0 rfl (g_at g_q0 rfl (g_at g_q0 rfl (g_at g_q0 rfl (g_at g_q0 rfl ⟨(by decide), h.1, (g_at g_q0 rfl (g_at g_q0 rfl (g_at g_q0 rfl (g_at g_q0 rfl (g_at g_q0 rfl ⟨(by decide), h.2.1, (g_at g_q0 rfl (g_at g_q0 rfl (g_at g_q0 rfl (g_at g_q0 rfl (g_at g_q0 rfl ⟨(by decide), h.2.2.1, (g_at g_q0 rfl (g_at g_q0 rfl (g_at g_q0 rfl (g_at g_q0 rfl (g_at g_q0 rfl ⟨(by decide), h.2.2.2.1, (g_at g_q0 rfl (g_at g_q0 rfl (g_at g_q0 rfl (g_at g_q0 rfl (g_at g_q0 rfl ⟨(by decide), h.2.2.2.2.1, (g_at g_q0 rfl (g_at g_q0 rfl (g_at g_q0 rfl (g_at g_q0 rfl (g_at g_q0 rfl ⟨(by decide), h.2.2.2.2.2.1, (g_at g_q0 rfl ⟨rfl, rfl, rfl, _, h.2.2.2.2.2.2, g_c1 (fun r154 s152 h153 => (g_at g_q0 rfl (g_at g_q0 rfl (g_at g_q0 rfl (g_at g_q0 rfl (g_at g_q0 rfl (g_at g_q0 rfl ⟨(by decide), h153.1, (g_at g_q0 rfl (g_at g_q0 rfl (g_at g_q0 rfl (g_at g_q0 rfl (g_at g_q0 rfl ⟨(by decide), h153.2.1, (g_at g_q0 rfl (g_at g_q0 rfl (g_at g_q0 rfl (g_at g_q0 rfl (g_at g_q0 rfl ⟨(by decide), h153.2.2.1, (g_at g_q0 rfl (g_at g_q0 rfl (g_at g_q0 rfl (g_at g_q0 rfl (g_at g_q0 rfl ⟨(by decide), h153.2.2.2.1, (g_at g_q0 rfl (g_at g_q0 rfl (g_at g_q0 rfl (g_at g_q0 rfl (g_at g_q0 rfl ⟨(by decide), h153.2.2.2.2.1, (g_at g_q0 rfl (g_at g_q0 rfl (g_at g_q0 rfl (g_at g_q0 rfl (g_at g_q0 rfl ⟨(by decide), h153.2.2.2.2.2.1, (g_at g_q0 rfl ⟨rfl, rfl, rfl, _, h153.2.2.2.2.2.2, g_c1 (fun r157 s155 h156 => (g_at g_q0 rfl ⟨fun c158 => (g_at g_q0 rfl (g_at g_q0 rfl (h156.1 c158))), fun c158 => (g_at g_q0 rfl (g_at g_q0 rfl ⟨(by decide), (h156.2 c158)⟩))⟩))⟩)⟩)))))⟩)))))⟩)))))⟩)))))⟩)))))⟩)))))))⟩)⟩)))))⟩)))))⟩)))))⟩)))))⟩)))))⟩))))))
set_option maxRecDepth 20000 in
theorem t0_814 {E : g_E} {O : g_O} {R : g_R} {σ : g_S} {x3 : Int32}  (h : vp_in (x3 + (1 : Int32)) E.2 ∧ vp_in (x3 + (2 : Int32)) E.2 ∧ vp_in (x3 + (3 : Int32)) E.2 ∧ vp_in (x3 + (4 : Int32)) E.2 ∧ O 87 [.ref 0, .int (E.1 ((x3 + (1 : Int32)).toNatClampNeg)), .int (E.1 ((x3 + (2 : Int32)).toNatClampNeg)), .int (E.1 ((x3 + (3 : Int32)).toNatClampNeg)), .int (E.1 ((x3 + (4 : Int32)).toNatClampNeg))] σ (g_ri fun r161 s159 => vp_in (x3 + (1 : Int32)) E.2 ∧ vp_in (x3 + (2 : Int32)) E.2 ∧ vp_in (x3 + (3 : Int32)) E.2 ∧ vp_in (x3 + (4 : Int32)) E.2 ∧ O 168 [.ref 68, .int (E.1 ((x3 + (1 : Int32)).toNatClampNeg)), .int (E.1 ((x3 + (2 : Int32)).toNatClampNeg)), .int (E.1 ((x3 + (3 : Int32)).toNatClampNeg)), .int (E.1 ((x3 + (4 : Int32)).toNatClampNeg))] s159 (g_ri fun r164 s162 => ((r161 = r164 → g_g E O 0 18 [some (.retAddr 99), some (.ref 0), some (.ref 68), some (.int (x3 + (7 : Int32)))] [] s162 R) ∧ (¬ (r161 = r164) → R (some (.int 0)) s162))))) : g_g E O 0 814 [some (.retAddr 99), some (.ref 0), some (.ref 68), some (.int x3)] [] σ R :=
  (g_at g_q0 rfl (g_at g_q0 rfl (g_at g_q0 rfl (g_at g_q0 rfl (g_at g_q0 rfl (g_at g_q0 rfl ⟨(by decide), h.1, (g_at g_q0 rfl (g_at g_q0 rfl (g_at g_q0 rfl (g_at g_q0 rfl (g_at g_q0 rfl ⟨(by decide), h.2.1, (g_at g_q0 rfl (g_at g_q0 rfl (g_at g_q0 rfl (g_at g_q0 rfl (g_at g_q0 rfl ⟨(by decide), h.2.2.1, (g_at g_q0 rfl (g_at g_q0 rfl (g_at g_q0 rfl (g_at g_q0 rfl (g_at g_q0 rfl ⟨(by decide), h.2.2.2.1, (g_at g_q0 rfl ⟨rfl, rfl, rfl, _, h.2.2.2.2, g_c1 (fun r161 s159 h160 => (g_at g_q0 rfl (g_at g_q0 rfl (g_at g_q0 rfl (g_at g_q0 rfl (g_at g_q0 rfl (g_at g_q0 rfl ⟨(by decide), h160.1, (g_at g_q0 rfl (g_at g_q0 rfl (g_at g_q0 rfl (g_at g_q0 rfl (g_at g_q0 rfl ⟨(by decide), h160.2.1, (g_at g_q0 rfl (g_at g_q0 rfl (g_at g_q0 rfl (g_at g_q0 rfl (g_at g_q0 rfl ⟨(by decide), h160.2.2.1, (g_at g_q0 rfl (g_at g_q0 rfl (g_at g_q0 rfl (g_at g_q0 rfl (g_at g_q0 rfl ⟨(by decide), h160.2.2.2.1, (g_at g_q0 rfl ⟨rfl, rfl, rfl, _, h160.2.2.2.2, g_c1 (fun r164 s162 h163 => (g_at g_q0 rfl ⟨fun c165 => (g_at g_q0 rfl (g_at g_q0 rfl (h163.1 c165))), fun c165 => (g_at g_q0 rfl (g_at g_q0 rfl ⟨(by decide), (h163.2 c165)⟩))⟩))⟩)⟩)))))⟩)))))⟩)))))⟩)))))))⟩)⟩)))))⟩)))))⟩)))))⟩))))))
set_option maxRecDepth 20000 in
theorem t0_867 {E : g_E} {O : g_O} {R : g_R} {σ : g_S} {x3 : Int32}  (h : vp_in (x3 + (1 : Int32)) E.2 ∧ vp_in (x3 + (2 : Int32)) E.2 ∧ O 88 [.ref 0, .int (E.1 ((x3 + (1 : Int32)).toNatClampNeg)), .int (E.1 ((x3 + (2 : Int32)).toNatClampNeg))] σ (g_ri fun r168 s166 => vp_in (x3 + (1 : Int32)) E.2 ∧ vp_in (x3 + (2 : Int32)) E.2 ∧ O 169 [.ref 68, .int (E.1 ((x3 + (1 : Int32)).toNatClampNeg)), .int (E.1 ((x3 + (2 : Int32)).toNatClampNeg))] s166 (g_ri fun r171 s169 => ((r168 = r171 → g_g E O 0 18 [some (.retAddr 99), some (.ref 0), some (.ref 68), some (.int (x3 + (7 : Int32)))] [] s169 R) ∧ (¬ (r168 = r171) → R (some (.int 0)) s169))))) : g_g E O 0 867 [some (.retAddr 99), some (.ref 0), some (.ref 68), some (.int x3)] [] σ R :=
  (g_at g_q0 rfl (g_at g_q0 rfl (g_at g_q0 rfl (g_at g_q0 rfl (g_at g_q0 rfl (g_at g_q0 rfl ⟨(by decide), h.1, (g_at g_q0 rfl (g_at g_q0 rfl (g_at g_q0 rfl (g_at g_q0 rfl (g_at g_q0 rfl ⟨(by decide), h.2.1, (g_at g_q0 rfl ⟨rfl, rfl, rfl, _, h.2.2, g_c1 (fun r168 s166 h167 => (g_at g_q0 rfl (g_at g_q0 rfl (g_at g_q0 rfl (g_at g_q0 rfl (g_at g_q0 rfl (g_at g_q0 rfl ⟨(by decide), h167.1, (g_at g_q0 rfl (g_at g_q0 rfl (g_at g_q0 rfl (g_at g_q0 rfl (g_at g_q0 rfl ⟨(by decide), h167.2.1, (g_at g_q0 rfl ⟨rfl, rfl, rfl, _, h167.2.2, g_c1 (fun r171 s169 h170 => (g_at g_q0 rfl ⟨fun c172 => (g_at g_q0 rfl (g_at g_q0 rfl (h170.1 c172))), fun c172 => (g_at g_q0 rfl (g_at g_q0 rfl ⟨(by decide), (h170.2 c172)⟩))⟩))⟩)⟩)))))⟩)))))))⟩)⟩)))))⟩))))))
set_option maxRecDepth 20000 in
theorem t0_900 {E : g_E} {O : g_O} {R : g_R} {σ : g_S} {x3 : Int32}  (h : vp_in (x3 + (1 : Int32)) E.2 ∧ vp_in (x3 + (2 : Int32)) E.2 ∧ O 89 [.ref 0, .int (E.1 ((x3 + (1 : Int32)).toNatClampNeg)), .int (E.1 ((x3 + (2 : Int32)).toNatClampNeg))] σ (g_ri fun r175 s173 => vp_in (x3 + (1 : Int32)) E.2 ∧ vp_in (x3 + (2 : Int32)) E.2 ∧ O 170 [.ref 68, .int (E.1 ((x3 + (1 : Int32)).toNatClampNeg)), .int (E.1 ((x3 + (2 : Int32)).toNatClampNeg))] s173 (g_ri fun r178 s176 => ((r175 = r178 → g_g E O 0 18 [some (.retAddr 99), some (.ref 0), some (.ref 68), some (.int (x3 + (7 : Int32)))] [] s176 R) ∧ (¬ (r175 = r178) → R (some (.int 0)) s176))))) : g_g E O 0 900 [some (.retAddr 99), some (.ref 0), some (.ref 68), some (.int x3)] [] σ R :=
  (g_at g_q0 rfl (g_at g_q0 rfl (g_at g_q0 rfl (g_at g_q0 rfl (g_at g_q0 rfl (g_at g_q0 rfl ⟨(by decide), h.1, (g_at g_q0 rfl (g_at g_q0 rfl (g_at g_q0 rfl (g_at g_q0 rfl (g_at g_q0 rfl ⟨(by decide), h.2.1, (g_at g_q0 rfl ⟨rfl, rfl, rfl, _, h.2.2, g_c1 (fun r175 s173 h174 => (g_at g_q0 rfl (g_at g_q0 rfl (g_at g_q0 rfl (g_at g_q0 rfl (g_at g_q0 rfl (g_at g_q0 rfl ⟨(by decide), h174.1, (g_at g_q0 rfl (g_at g_q0 rfl (g_at g_q0 rfl (g_at g_q0 rfl (g_at g_q0 rfl ⟨(by decide), h174.2.1, (g_at g_q0 rfl ⟨rfl, rfl, rfl, _, h174.2.2, g_c1 (fun r178 s176 h177 => (g_at g_q0 rfl ⟨fun c179 => (g_at g_q0 rfl (g_at g_q0 rfl (h177.1 c179))), fun c179 => (g_at g_q0 rfl (g_at g_q0 rfl ⟨(by decide), (h177.2 c179)⟩))⟩))⟩)⟩)))))⟩)))))))⟩)⟩)))))⟩))))))
set_option maxRecDepth 20000 in
theorem t0_933 {E : g_E} {O : g_O} {R : g_R} {σ : g_S} {x3 : Int32}  (h : vp_in (x3 + (1 : Int32)) E.2 ∧ vp_in (x3 + (2 : Int32)) E.2 ∧ vp_in (x3 + (3 : Int32)) E.2 ∧ O 90 [.ref 0, .int (E.1 ((x3 + (1 : Int32)).toNatClampNeg)), .int (E.1 ((x3 + (2 : Int32)).toNatClampNeg)), .int (E.1 ((x3 + (3 : Int32)).toNatClampNeg))] σ (g_ri fun r182 s180 => vp_in (x3 + (1 : Int32)) E.2 ∧ vp_in (x3 + (2 : Int32)) E.2 ∧ vp_in (x3 + (3 : Int32)) E.2 ∧ O 171 [.ref 68, .int (E.1 ((x3 + (1 : Int32)).toNatClampNeg)), .int (E.1 ((x3 + (2 : Int32)).toNatClampNeg)), .int (E.1 ((x3 + (3 : Int32)).toNatClampNeg))] s180 (g_ri fun r185 s183 => ((r182 = r185 → g_g E O 0 18 [some (.retAddr 99), some (.ref 0), some (.ref 68), some (.int (x3 + (7 : Int32)))] [] s183 R) ∧ (¬ (r182 = r185) → R (some (.int 0)) s183))))) : g_g E O 0 933 [some (.retAddr 99), some (.ref 0), some (.ref 68), some (.int x3)] [] σ R :=
  (g_at g_q0 rfl (g_at g_q0 rfl (g_at g_q0 rfl (g_at g_q0 rfl (g_at g_q0 rfl (g_at g_q0 rfl ⟨(by decide), h.1, (g_at g_q0 rfl (g_at g_q0 rfl (g_at g_q0 rfl (g_at g_q0 rfl (g_at g_q0 rfl ⟨(by decide), h.2.1, (g_at g_q0 rfl (g_at g_q0 rfl (g_at g_q0 rfl (g_at g_q0 rfl (g_at g_q0 rfl ⟨(by decide), h.2.2.1, (g_at g_q0 rfl ⟨rfl, rfl, rfl, _, h.2.2.2, g_c1 (fun r182 s180 h181 => (g_at g_q0 rfl (g_at g_q0 rfl (g_at g_q0 rfl (g_at g_q0 rfl (g_at g_q0 rfl (g_at g_q0 rfl ⟨(by decide), h181.1, (g_at g_q0 rfl (g_at g_q0 rfl (g_at g_q0 rfl (g_at g_q0 rfl (g_at g_q0 rfl ⟨(by decide), h181.2.1, (g_at g_q0 rfl (g_at g_q0 rfl (g_at g_q0 rfl (g_at g_q0 rfl (g_at g_q0 rfl ⟨(by decide), h181.2.2.1, (g_at g_q0 rfl ⟨rfl, rfl, rfl, _, h181.2.2.2, g_c1 (fun r185 s183 h184 => (g_at g_q0 rfl ⟨fun c186 => (g_at g_q0 rfl (g_at g_q0 rfl (h184.1 c186))), fun c186 => (g_at g_q0 rfl (g_at g_q0 rfl ⟨(by decide), (h184.2 c186)⟩))⟩))⟩)⟩)))))⟩)))))⟩)))))))⟩)⟩)))))⟩)))))⟩))))))
set_option maxRecDepth 20000 in
theorem t0_976 {E : g_E} {O : g_O} {R : g_R} {σ : g_S} {x3 : Int32}  (h : vp_in (x3 + (1 : Int32)) E.2 ∧ O 91 [.ref 0, .int (E.1 ((x3 + (1 : Int32)).toNatClampNeg))] σ (g_ri fun r189 s187 => vp_in (x3 + (1 : Int32)) E.2 ∧ O 172 [.ref 68, .int (E.1 ((x3 + (1 : Int32)).toNatClampNeg))] s187 (g_ri fun r192 s190 => ((r189 = r192 → g_g E O 0 18 [some (.retAddr 99), some (.ref 0), some (.ref 68), some (.int (x3 + (7 : Int32)))] [] s190 R) ∧ (¬ (r189 = r192) → R (some (.int 0)) s190))))) : g_g E O 0 976 [some (.retAddr 99), some (.ref 0), some (.ref 68), some (.int x3)] [] σ R :=
  (g_at g_q0 rfl (g_at g_q0 rfl (g_at g_q0 rfl (g_at g_q0 rfl (g_at g_q0 rfl (g_at g_q0 rfl ⟨(by decide), h.1, (g_at g_q0 rfl ⟨rfl, rfl, rfl, _, h.2, g_c1 (fun r189 s187 h188 => (g_at g_q0 rfl (g_at g_q0 rfl (g_at g_q0 rfl (g_at g_q0 rfl (g_at g_q0 rfl (g_at g_q0 rfl ⟨(by decide), h188.1, (g_at g_q0 rfl ⟨rfl, rfl, rfl, _, h188.2, g_c1 (fun r192 s190 h191 => (g_at g_q0 rfl ⟨fun c193 => (g_at g_q0 rfl (g_at g_q0 rfl (h191.1 c193))), fun c193 => (g_at g_q0 rfl (g_at g_q0 rfl ⟨(by decide), (h191.2 c193)⟩))⟩))⟩)⟩)))))))⟩)⟩))))))
set_option maxRecDepth 20000 in
theorem t0_999 {E : g_E} {O : g_O} {R : g_R} {σ : g_S} {x3 : Int32}  (h : vp_in (x3 + (1 : Int32)) E.2 ∧ O 92 [.ref 0, .int (E.1 ((x3 + (1 : Int32)).toNatClampNeg))] σ (g_ri fun r196 s194 => vp_in (x3 + (1 : Int32)) E.2 ∧ O 173 [.ref 68, .int (E.1 ((x3 + (1 : Int32)).toNatClampNeg))] s194 (g_ri fun r199 s197 => ((r196 = r199 → g_g E O 0 18 [some (.retAddr 99), some (.ref 0), some (.ref 68), some (.int (x3 + (7 : Int32)))] [] s197 R) ∧ (¬ (r196 = r199) → R (some (.int 0)) s197))))) : g_g E O 0 999 [some (.retAddr 99), some (.ref 0), some (.ref 68), some (.int x3)] [] σ R :=
  (g_at g_q0 rfl (g_at g_q0 rfl (g_at g_q0 rfl (g_at g_q0 rfl (g_at g_q0 rfl (g_at g_q0 rfl ⟨(by decide), h.1, (g_at g_q0 rfl ⟨rfl, rfl, rfl, _, h.2, g_c1 (fun r196 s194 h195 => (g_at g_q0 rfl (g_at g_q0 rfl (g_at g_q0 rfl (g_at g_q0 rfl (g_at g_q0 rfl (g_at g_q0 rfl ⟨(by decide), h195.1, (g_at g_q0 rfl ⟨rfl, rfl, rfl, _, h195.2, g_c1 (fun r199 s197 h198 => (g_at g_q0 rfl ⟨fun c200 => (g_at g_q0 rfl (g_at g_q0 rfl (h198.1 c200))), fun c200 => (g_at g_q0 rfl (g_at g_q0 rfl ⟨(by decide), (h198.2 c200)⟩))⟩))⟩)⟩)))))))⟩)⟩))))))
set_option maxRecDepth 20000 in
theorem t0_1022 {E : g_E} {O : g_O} {R : g_R} {σ : g_S} {x3 : Int32}  (h : vp_in (x3 + (1 : Int32)) E.2 ∧ O 93 [.ref 0, .int (E.1 ((x3 + (1 : Int32)).toNatClampNeg))] σ (g_ri fun r203 s201 => vp_in (x3 + (1 : Int32)) E.2 ∧ O 175 [.ref 68, .int (E.1 ((x3 + (1 : Int32)).toNatClampNeg))] s201 (g_ri fun r206 s204 => ((r203 = r206 → g_g E O 0 18 [some (.retAddr 99), some (.ref 0), some (.ref 68), some (.int (x3 + (7 : Int32)))] [] s204 R) ∧ (¬ (r203 = r206) → R (some (.int 0)) s204))))) : g_g E O 0 1022 [some (.retAddr 99), some (.ref 0), some (.ref 68), some (.int x3)] [] σ R :=
  (g_at g_q0 rfl (g_at g_q0 rfl (g_at g_q0 rfl (g_at g_q0 rfl (g_at g_q0 rfl (g_at g_q0 rfl ⟨(by decide), h.1, (g_at g_q0 rfl ⟨rfl, rfl, rfl, _, h.2, g_c1 (fun r203 s201 h202 => (g_at g_q0 rfl (g_at g_q0 rfl (g_at g_q0 rfl (g_at g_q0 rfl (g_at g_q0 rfl (g_at g_q0 rfl ⟨(by decide), h202.1, (g_at g_q0 rfl ⟨rfl, rfl, rfl, _, h202.2, g_c1 (fun r206 s204 h205 => (g_at g_q0 rfl ⟨fun c207 => (g_at g_q0 rfl (g_at g_q0 rfl (h205.1 c207))), fun c207 => (g_at g_q0 rfl (g_at g_q0 rfl ⟨(by decide), (h205.2 c207)⟩))⟩))⟩)⟩)))))))⟩)⟩))))))
set_option maxRecDepth 20000 in
theorem t0_1045 {E : g_E} {O : g_O} {R : g_R} {σ : g_S} {x3 : Int32}  (h : vp_in (x3 + (1 : Int32)) E.2 ∧ vp_in (x3 + (2 : Int32)) E.2 ∧ O 94 [.ref 0, .int (E.1 ((x3 + (1 : Int32)).toNatClampNeg)), .int (E.1 ((x3 + (2 : Int32)).toNatClampNeg))] σ (g_ri fun r210 s208 => vp_in (x3 + (1 : Int32)) E.2 ∧ vp_in (x3 + (2 : Int32)) E.2 ∧ O 176 [.ref 68, .int (E.1 ((x3 + (1 : Int32)).toNatClampNeg)), .int (E.1 ((x3 + (2 : Int32)).toNatClampNeg))] s208 (g_ri fun r213 s211 => ((r210 = r213 → g_g E O 0 18 [some (.retAddr 99), some (.ref 0), some (.ref 68), some (.int (x3 + (7 : Int32)))] [] s211 R) ∧ (¬ (r210 = r213) → R (some (.int 0)) s211))))) : g_g E O 0 1045 [some (.retAddr 99), some (.ref 0), some (.ref 68), some (.int x3)] [] σ R :=
  (g_at g_q0 rfl (g_at g_q0 rfl (g_at g_q0 rfl (g_at g_q0 rfl (g_at g_q0 rfl (g_at g_q0 rfl ⟨(by decide), h.1, (g_at g_q0 rfl (g_at g_q0 rfl (g_at g_q0 rfl (g_at g_q0 rfl (g_at g_q0 rfl ⟨(by decide), h.2.1, (g_at g_q0 rfl ⟨rfl, rfl, rfl, _, h.2.2, g_c1 (fun r210 s208 h209 => (g_at g_q0 rfl (g_at g_q0 rfl (g_at g_q0 rfl (g_at g_q0 rfl (g_at g_q0 rfl (g_at g_q0 rfl ⟨(by decide), h209.1, (g_at g_q0 rfl (g_at g_q0 rfl (g_at g_q0 rfl (g_at g_q0 rfl (g_at g_q0 rfl ⟨(by decide), h209.2.1, (g_at g_q0 rfl ⟨rfl, rfl, rfl, _, h209.2.2, g_c1 (fun r213 s211 h212 => (g_at g_q0 rfl ⟨fun c214 => (g_at g_q0 rfl (g_at g_q0 rfl (h212.1 c214))), fun c214 => (g_at g_q0 rfl (g_at g_q0 rfl ⟨(by decide), (h212.2 c214)⟩))⟩))⟩)⟩)))))⟩)))))))⟩)⟩)))))⟩))))))
set_option maxRecDepth 20000 in
theorem t0_1078 {E : g_E} {O : g_O} {R : g_R} {σ : g_S} {x3 : Int32}  (h : vp_in (x3 + (1 : Int32)) E.2 ∧ vp_in (x3 + (2 : Int32)) E.2 ∧ O 95 [.ref 0, .int (E.1 ((x3 + (1 : Int32)).toNatClampNeg)), .int (E.1 ((x3 + (2 : Int32)).toNatClampNeg))] σ (g_ri fun r217 s215 => vp_in (x3 + (1 : Int32)) E.2 ∧ vp_in (x3 + (2 : Int32)) E.2 ∧ O 182 [.ref 68, .int (E.1 ((x3 + (1 : Int32)).toNatClampNeg)), .int (E.1 ((x3 + (2 : Int32)).toNatClampNeg))] s215 (g_ri fun r220 s218 => ((r217 = r220 → g_g E O 0 18 [some (.retAddr 99), some (.ref 0), some (.ref 68), some (.int (x3 + (7 : Int32)))] [] s218 R) ∧ (¬ (r217 = r220) → R (some (.int 0)) s218))))) : g_g E O 0 1078 [some (.retAddr 99), some (.ref 0), some (.ref 68), some (.int x3)] [] σ R :=
  (g_at g_q0 rfl (g_at g_q0 rfl (g_at g_q0 rfl (g_at g_q0 rfl (g_at g_q0 rfl (g_at g_q0 rfl ⟨(by decide), h.1, (g_at g_q0 rfl (g_at g_q0 rfl (g_at g_q0 rfl (g_at g_q0 rfl (g_at g_q0 rfl ⟨(by decide), h.2.1, (g_at g_q0 rfl ⟨rfl, rfl, rfl, _, h.2.2, g_c1 (fun r217 s215 h216 => (g_at g_q0 rfl (g_at g_q0 rfl (g_at g_q0 rfl (g_at g_q0 rfl (g_at g_q0 rfl (g_at g_q0 rfl ⟨(by decide), h216.1, (g_at g_q0 rfl (g_at g_q0 rfl (g_at g_q0 rfl (g_at g_q0 rfl (g_at g_q0 rfl ⟨(by decide), h216.2.1, (g_at g_q0 rfl ⟨rfl, rfl, rfl, _, h216.2.2, g_c1 (fun r220 s218 h219 => (g_at g_q0 rfl ⟨fun c221 => (g_at g_q0 rfl (g_at g_q0 rfl (h219.1 c221))), fun c221 => (g_at g_q0 rfl (g_at g_q0 rfl ⟨(by decide), (h219.2 c221)⟩))⟩))⟩)⟩)))))⟩)))))))⟩)⟩)))))⟩))))))
set_option maxRecDepth 20000 in
theorem t0_1111 {E : g_E} {O : g_O} {R : g_R} {σ : g_S} {x3 : Int32}  (h : vp_in (x3 + (1 : Int32)) E.2 ∧ O 96 [.ref 0, .int (E.1 ((x3 + (1 : Int32)).toNatClampNeg))] σ (g_ri fun r224 s222 => vp_in (x3 + (1 : Int32)) E.2 ∧ O 183 [.ref 68, .int (E.1 ((x3 + (1 : Int32)).toNatClampNeg))] s222 (g_ri fun r227 s225 => ((r224 = r227 → g_g E O 0 18 [some (.retAddr 99), some (.ref 0), some (.ref 68), some (.int (x3 + (7 : Int32)))] [] s225 R) ∧ (¬ (r224 = r227) → R (some (.int 0)) s225))))) : g_g E O 0 1111 [some (.retAddr 99), some (.ref 0), some (.ref 68), some (.int x3)] [] σ R :=
  (g_at g_q0 rfl (g_at g_q0 rfl (g_at g_q0 rfl (g_at g_q0 rfl (g_at g_q0 rfl (g_at g_q0 rfl ⟨(by decide), h.1, (g_at g_q0 rfl ⟨rfl, rfl, rfl, _, h.2, g_c1 (fun r224 s222 h223 => (g_at g_q0 rfl (g_at g_q0 rfl (g_at g_q0 rfl (g_at g_q0 rfl (g_at g_q0 rfl (g_at g_q0 rfl ⟨(by decide), h223.1, (g_at g_q0 rfl ⟨rfl, rfl, rfl, _, h223.2, g_c1 (fun r227 s225 h226 => (g_at g_q0 rfl ⟨fun c228 => (g_at g_q0 rfl (g_at g_q0 rfl (h226.1 c228))), fun c228 => (g_at g_q0 rfl (g_at g_q0 rfl ⟨(by decide), (h226.2 c228)⟩))⟩))⟩)⟩)))))))⟩)⟩))))))
set_option maxRecDepth 20000 in
theorem t0_1134 {E : g_E} {O : g_O} {R : g_R} {σ : g_S} {x3 : Int32}  (h : vp_in (x3 + (1 : Int32)) E.2 ∧ O 97 [.ref 0, .int (E.1 ((x3 + (1 : Int32)).toNatClampNeg))] σ (g_ri fun r231 s229 => vp_in (x3 + (1 : Int32)) E.2 ∧ O 184 [.ref 68, .int (E.1 ((x3 + (1 : Int32)).toNatClampNeg))] s229 (g_ri fun r234 s232 => ((r231 = r234 → g_g E O 0 18 [some (.retAddr 99), some (.ref 0), some (.ref 68), some (.int (x3 + (7 : Int32)))] [] s232 R) ∧ (¬ (r231 = r234) → R (some (.int 0)) s232))))) : g_g E O 0 1134 [some (.retAddr 99), some (.ref 0), some (.ref 68), some (.int x3)] [] σ R :=
  (g_at g_q0 rfl (g_at g_q0 rfl (g_at g_q0 rfl (g_at g_q0 rfl (g_at g_q0 rfl (g_at g_q0 rfl ⟨(by decide), h.1, (g_at g_q0 rfl ⟨rfl, rfl, rfl, _, h.2, g_c1 (fun r231 s229 h230 => (g_at g_q0 rfl (g_at g_q0 rfl (g_at g_q0 rfl (g_at g_q0 rfl (g_at g_q0 rfl (g_at g_q0 rfl ⟨(by decide), h230.1, (g_at g_q0 rfl ⟨rfl, rfl, rfl, _, h230.2, g_c1 (fun r234 s232 h233 => (g_at g_q0 rfl ⟨fun c235 => (g_at g_q0 rfl (g_at g_q0 rfl (h233.1 c235))), fun c235 => (g_at g_q0 rfl (g_at g_q0 rfl ⟨(by decide), (h233.2 c235)⟩))⟩))⟩)⟩)))))))⟩)⟩))))))
set_option maxRecDepth 20000 in
theorem t0_1157 {E : g_E} {O : g_O} {R : g_R} {σ : g_S} {x3 : Int32}  (h : O 98 [.ref 0] σ (g_ri fun r238 s236 => O 185 [.ref 68] s236 (g_ri fun r241 s239 => ((r238 = r241 → g_g E O 0 18 [some (.retAddr 99), some (.ref 0), some (.ref 68), some (.int (x3 + (7 : Int32)))] [] s239 R) ∧ (¬ (r238 = r241) → R (some (.int 0)) s239))))) : g_g E O 0 1157 [some (.retAddr 99), some (.ref 0), some (.ref 68), some (.int x3)] [] σ R :=
  (g_at g_q0 rfl (g_at g_q0 rfl ⟨rfl, rfl, rfl, _, h, g_c1 (fun r238 s236 h237 => (g_at g_q0 rfl (g_at g_q0 rfl ⟨rfl, rfl, rfl, _, h237, g_c1 (fun r241 s239 h240 => (g_at g_q0 rfl ⟨fun c242 => (g_at g_q0 rfl (g_at g_q0 rfl (h240.1 c242))), fun c242 => (g_at g_q0 rfl (g_at g_q0 rfl ⟨(by decide), (h240.2 c242)⟩))⟩))⟩)))⟩))
set_option maxRecDepth 20000 in
theorem t1_0 {E : g_E} {d : Nat} {R : g_R} {σ : g_S} {x1 : Int32} {x2 : Int32}  (h : vp_in x1 6 ∧ ((¬ ((g_ro E 3 x1.toNatClampNeg) >>> (x2 &&& 31)) &&& (1 : Int32) = (1 : Int32) → R (some (.int 0)) σ) ∧ (¬ (¬ ((g_ro E 3 x1.toNatClampNeg) >>> (x2 &&& 31)) &&& (1 : Int32) = (1 : Int32)) → R (some (.int 1)) σ))) : g_wp E (d + 1) 1 [.int x1, .int x2] σ R :=
set_option maxRecDepth 20000 in
  show g_g E (g_wp E d) 1 0 [some (.int x1), some (.int x2)] [] σ R from (g_at g_q1 rfl (g_at g_q1 rfl (g_at g_q1 rfl ⟨(by decide), h.1, (g_at g_q1 rfl (g_at g_q1 rfl (g_at g_q1 rfl (g_at g_q1 rfl (g_at g_q1 rfl (g_at g_q1 rfl ⟨fun c1 => (g_at g_q1 rfl (g_at g_q1 rfl ⟨(by decide), (h.2.1 c1)⟩)), fun c1 => (g_at g_q1 rfl (g_at g_q1 rfl (g_at g_q1 rfl ⟨(by decide), (h.2.2 c1)⟩)))⟩))))))⟩)))
set_option maxRecDepth 20000 in
theorem t2_0 {E : g_E} {d : Nat} {R : g_R} {σ : g_S} {t1 : Nat} {x2 : Int32} {x3 : Int32} (ht1 : g_Tw t1) (h : ∀ s1 : g_S, s1 = g_up σ 66 1 (0 : Int32) → (g_wp E d) 59 [.ref t1, .int x2] s1 (g_ri fun r4 s2 => ((¬ x3 = 0 → vp_in r4 6 ∧ (g_wp E d) 3 [.ref 66, .ref t1, .int x2, .int (g_ro E 5 r4.toNatClampNeg), .int 1] s2 (g_ri fun r8 s6 => R (some (.int r8)) s6)) ∧ (¬ (¬ x3 = 0) → vp_in r4 6 ∧ (g_wp E d) 3 [.ref 66, .ref t1, .int x2, .int (g_ro E 4 r4.toNatClampNeg), .int 1] s2 (g_ri fun r11 s9 => R (some (.int r11)) s9))))) : g_wp E (d + 1) 2 [.ref 66, .ref t1, .int x2, .int x3] σ R :=
set_option maxRecDepth 20000 in
  show g_g E (g_wp E d) 2 0 [some (.ref 66), some (.ref t1), some (.int x2), some (.int x3), none] [] σ R from (g_at g_q2 rfl (g_at g_q2 rfl (g_at g_q2 rfl ⟨rfl, rfl, (g_at g_q2 rfl (g_at g_q2 rfl (g_at g_q2 rfl ⟨(g_tk0 ht1), rfl, rfl, _, (h _ rfl), g_c1 (fun r4 s2 h3 => (g_at g_q2 rfl (g_at g_q2 rfl (g_at g_q2 rfl (g_at g_q2 rfl (g_at g_q2 rfl (g_at g_q2 rfl ⟨fun c5 => (g_at g_q2 rfl (g_at g_q2 rfl (g_at g_q2 rfl ⟨(by decide), (h3.1 c5).1, (g_at g_q2 rfl (g_at g_q2 rfl ⟨rfl, rfl, rfl, _, (h3.1 c5).2, g_c1 (fun r8 s6 h7 => (g_at g_q2 rfl ⟨rfl, h7⟩))⟩))⟩))), fun c5 => (g_at g_q2 rfl (g_at g_q2 rfl (g_at g_q2 rfl ⟨(by decide), (h3.2 c5).1, (g_at g_q2 rfl (g_at g_q2 rfl (g_at g_q2 rfl ⟨rfl, rfl, rfl, _, (h3.2 c5).2, g_c1 (fun r11 s9 h10 => (g_at g_q2 rfl ⟨rfl, h10⟩))⟩)))⟩)))⟩)))))))⟩)))⟩)))
set_option maxRecDepth 20000 in
theorem t3_0 {E : g_E} {d : Nat} {R : g_R} {σ : g_S} {t1 : Nat} {x2 : Int32} {x3 : Int32} {x4 : Int32} (ht1 : g_Tw t1) (h : ((x4 ≤ (16 : Int32) → (g_wp E d) 4 [.ref 66, .int x3] σ (g_r0 fun s2 => (g_wp E d) 59 [.ref t1, .int x2] s2 (g_ri fun r6 s4 => (((x3.toInt < 10 ∨ 24 < x3.toInt) → R (some (.int (0 : Int32))) s4) ∧ (x3 = 10 → vp_in x2 8 ∧ R (some (.int (s4 (t1 + 5) x2.toNatClampNeg))) s4) ∧ (x3 = 11 → (g_wp E d) 3 [.ref 66, .ref t1, .int x2, .int 10, .int (x4 + (1 : Int32))] s4 (g_ri fun r12 s10 => vp_in r6 6 ∧ (g_wp E d) 3 [.ref 66, .ref t1, .int x2, .int (g_ro E 5 r6.toNatClampNeg), .int (x4 + (1 : Int32))] s10 (g_ri fun r15 s13 => R (some (.int (r12 + r15))) s13))) ∧ (x3 = 12 → (g_wp E d) 3 [.ref 66, .ref t1, .int x2, .int 11, .int (x4 + (1 : Int32))] s4 (g_ri fun r19 s17 => R (some (.int (-r19))) s17)) ∧ (x3 = 13 → (g_wp E d) 3 [.ref 66, .ref t1, .int x2, .int 10, .int (x4 + (1 : Int32))] s4 (g_ri fun r23 s21 => R (some (.int (r23 - (100 : Int32)))) s21)) ∧ (x3 = 14 → (g_wp E d) 3 [.ref 66, .ref t1, .int x2, .int 13, .int (x4 + (1 : Int32))] s4 (g_ri fun r27 s25 => R (some (.int ((2 : Int32) * r27))) s25)) ∧ (x3 = 15 → R (some (.int (0 : Int32))) s4) ∧ (x3 = 16 → R (some (.int (0 : Int32))) s4) ∧ (x3 = 17 → R (some (.int (0 : Int32))) s4) ∧ (x3 = 18 → R (some (.int (0 : Int32))) s4) ∧ (x3 = 19 → R (some (.int (0 : Int32))) s4) ∧ (x3 = 20 → R (some (.int x2)) s4) ∧ (x3 = 21 → (g_wp E d) 3 [.ref 66, .ref t1, .int x2, .int 20, .int (x4 + (1 : Int32))] s4 (g_ri fun r37 s35 => vp_in x2 8 ∧ R (some (.int (r37 + (s35 (t1 + 4) x2.toNatClampNeg)))) s35)) ∧ (x3 = 22 → (g_wp E d) 3 [.ref 66, .ref t1, .int x2, .int 21, .int (x4 + (1 : Int32))] s4 (g_ri fun r41 s39 => R (some (.int (r41 - (1000 : Int32)))) s39)) ∧ (x3 = 23 → (g_wp E d) 3 [.ref 66, .ref t1, .int x2, .int 20, .int (x4 + (1 : Int32))] s4 (g_ri fun r45 s43 => vp_in r6 6 ∧ (g_wp E d) 3 [.ref 66, .ref t1, .int x2, .int (g_ro E 4 r6.toNatClampNeg), .int (x4 + (1 : Int32))] s43 (g_ri fun r48 s46 => R (some (.int (r45 - r48))) s46))) ∧ (x3 = 24 → (g_wp E d) 3 [.ref 66, .ref t1, .int x2, .int 22, .int (x4 + (1 : Int32))] s4 (g_ri fun r52 s50 => R (some (.int ((2 : Int32) * r52))) s50)) ∧ True)))) ∧ (¬ (x4 ≤ (16 : Int32)) → R (some (.int (0 : Int32))) σ))) : g_wp E (d + 1) 3 [.ref 66, .ref t1, .int x2, .int x3, .int x4] σ R :=
set_option maxRecDepth 20000 in
  show g_g E (g_wp E d) 3 0 [some (.ref 66), some (.ref t1), some (.int x2), some (.int x3), some (.int x4), none, none] [] σ R from (g_at g_q3 rfl (g_at g_q3 rfl (g_at g_q3 rfl ⟨fun c1 => (g_at g_q3 rfl (g_at g_q3 rfl (g_at g_q3 rfl ⟨rfl, rfl, rfl, _, (h.1 c1), g_c0 (fun s2 h3 => (g_at g_q3 rfl (g_at g_q3 rfl (g_at g_q3 rfl ⟨(g_tk0 ht1), rfl, rfl, _, h3, g_c1 (fun r6 s4 h5 => (g_at g_q3 rfl (g_at g_q3 rfl (g_at g_q3 rfl (g_at g_q3 rfl (g_at g_q3 rfl (g_at g_q3 rfl (g_at g_q3 rfl ⟨fun c7 => (g_at g_q3 rfl (g_at g_q3 rfl ⟨rfl, (h5.1 c7)⟩)), fun c8 => (g_at g_q3 rfl (g_at g_q3 rfl ⟨(g_tk0 ht1), (g_at g_q3 rfl (g_at g_q3 rfl ⟨_, (g_tk5 ht1), (g_tl5 ht1), (h5.2.1 c8).1, (g_at g_q3 rfl ⟨rfl, (h5.2.1 c8).2⟩)⟩))⟩)), fun c9 => (g_at g_q3 rfl (g_at g_q3 rfl (g_at g_q3 rfl (g_at g_q3 rfl (g_at g_q3 rfl (g_at g_q3 rfl ⟨rfl, rfl, rfl, _, (h5.2.2.1 c9), g_c1 (fun r12 s10 h11 => (g_at g_q3 rfl (g_at g_q3 rfl (g_at g_q3 rfl (g_at g_q3 rfl (g_at g_q3 rfl (g_at g_q3 rfl ⟨(by decide), h11.1, (g_at g_q3 rfl (g_at g_q3 rfl ⟨rfl, rfl, rfl, _, h11.2, g_c1 (fun r15 s13 h14 => (g_at g_q3 rfl (g_at g_q3 rfl ⟨rfl, h14⟩)))⟩))⟩)))))))⟩)))))), fun c16 => (g_at g_q3 rfl (g_at g_q3 rfl (g_at g_q3 rfl (g_at g_q3 rfl (g_at g_q3 rfl (g_at g_q3 rfl ⟨rfl, rfl, rfl, _, (h5.2.2.2.1 c16), g_c1 (fun r19 s17 h18 => (g_at g_q3 rfl (g_at g_q3 rfl ⟨rfl, h18⟩)))⟩)))))), fun c20 => (g_at g_q3 rfl (g_at g_q3 rfl (g_at g_q3 rfl (g_at g_q3 rfl (g_at g_q3 rfl (g_at g_q3 rfl ⟨rfl, rfl, rfl, _, (h5.2.2.2.2.1 c20), g_c1 (fun r23 s21 h22 => (g_at g_q3 rfl (g_at g_q3 rfl (g_at g_q3 rfl ⟨rfl, h22⟩))))⟩)))))), fun c24 => (g_at g_q3 rfl (g_at g_q3 rfl (g_at g_q3 rfl (g_at g_q3 rfl (g_at g_q3 rfl (g_at g_q3 rfl (g_at g_q3 rfl ⟨rfl, rfl, rfl, _, (h5.2.2.2.2.2.1 c24), g_c1 (fun r27 s25 h26 => (g_at g_q3 rfl (g_at g_q3 rfl ⟨rfl, h26⟩)))⟩))))))), fun c28 => (g_at g_q3 rfl (g_at g_q3 rfl ⟨rfl, (h5.2.2.2.2.2.2.1 c28)⟩)), fun c29 => (g_at g_q3 rfl (g_at g_q3 rfl ⟨rfl, (h5.2.2.2.2.2.2.2.1 c29)⟩)), fun c30 => (g_at g_q3 rfl (g_at g_q3 rfl ⟨rfl, (h5.2.2.2.2.2.2.2.2.1 c30)⟩)), fun c31 => (g_at g_q3 rfl (g_at g_q3 rfl ⟨rfl, (h5.2.2.2.2.2.2.2.2.2.1 c31)⟩)), fun c32 => (g_at g_q3 rfl (g_at g_q3 rfl ⟨rfl, (h5.2.2.2.2.2.2.2.2.2.2.1 c32)⟩)), fun c33 => (g_at g_q3 rfl (g_at g_q3 rfl ⟨rfl, (h5.2.2.2.2.2.2.2.2.2.2.2.1 c33)⟩)), fun c34 => (g_at g_q3 rfl (g_at g_q3 rfl (g_at g_q3 rfl (g_at g_q3 rfl (g_at g_q3 rfl (g_at g_q3 rfl ⟨rfl, rfl, rfl, _, (h5.2.2.2.2.2.2.2.2.2.2.2.2.1 c34), g_c1 (fun r37 s35 h36 => (g_at g_q3 rfl (g_at g_q3 rfl ⟨(g_tk0 ht1), (g_at g_q3 rfl (g_at g_q3 rfl ⟨_, (g_tk4 ht1), (g_tl4 ht1), h36.1, (g_at g_q3 rfl (g_at g_q3 rfl ⟨rfl, h36.2⟩))⟩))⟩)))⟩)))))), fun c38 => (g_at g_q3 rfl (g_at g_q3 rfl (g_at g_q3 rfl (g_at g_q3 rfl (g_at g_q3 rfl (g_at g_q3 rfl ⟨rfl, rfl, rfl, _, (h5.2.2.2.2.2.2.2.2.2.2.2.2.2.1 c38), g_c1 (fun r41 s39 h40 => (g_at g_q3 rfl (g_at g_q3 rfl (g_at g_q3 rfl ⟨rfl, h40⟩))))⟩)))))), fun c42 => (g_at g_q3 rfl (g_at g_q3 rfl (g_at g_q3 rfl (g_at g_q3 rfl (g_at g_q3 rfl (g_at g_q3 rfl ⟨rfl, rfl, rfl, _, (h5.2.2.2.2.2.2.2.2.2.2.2.2.2.2.1 c42), g_c1 (fun r45 s43 h44 => (g_at g_q3 rfl (g_at g_q3 rfl (g_at g_q3 rfl (g_at g_q3 rfl (g_at g_q3 rfl (g_at g_q3 rfl ⟨(by decide), h44.1, (g_at g_q3 rfl (g_at g_q3 rfl ⟨rfl, rfl, rfl, _, h44.2, g_c1 (fun r48 s46 h47 => (g_at g_q3 rfl (g_at g_q3 rfl ⟨rfl, h47⟩)))⟩))⟩)))))))⟩)))))), fun c49 => (g_at g_q3 rfl (g_at g_q3 rfl (g_at g_q3 rfl (g_at g_q3 rfl (g_at g_q3 rfl (g_at g_q3 rfl (g_at g_q3 rfl ⟨rfl, rfl, rfl, _, (h5.2.2.2.2.2.2.2.2.2.2.2.2.2.2.2.1 c49), g_c1 (fun r52 s50 h51 => (g_at g_q3 rfl (g_at g_q3 rfl ⟨rfl, h51⟩)))⟩))))))), trivial⟩))))))))⟩))))⟩))), fun c1 => (g_at g_q3 rfl (g_at g_q3 rfl ⟨rfl, (h.2 c1)⟩))⟩)))
set_option maxRecDepth 20000 in
theorem t4_0 {E : g_E} {d : Nat} {R : g_R} {σ : g_S} {x1 : Int32}  (h : (((16 : Int32) ≤ σ 66 1 → R none σ) ∧ (¬ ((16 : Int32) ≤ σ 66 1) → vp_in (σ 66 1) 16 ∧ ∀ s2 : g_S, s2 = g_up σ 67 ((σ 66 1).toNatClampNeg) x1 → ∀ s3 : g_S, s3 = g_up s2 66 1 ((σ 66 1) + (1 : Int32)) → R none s3))) : g_wp E (d + 1) 4 [.ref 66, .int x1] σ R :=
set_option maxRecDepth 20000 in
  show g_g E (g_wp E d) 4 0 [some (.ref 66), some (.int x1)] [] σ R from (g_at g_q4 rfl (g_at g_q4 rfl ⟨rfl, (g_at g_q4 rfl (g_at g_q4 rfl ⟨fun c1 => (g_at g_q4 rfl (h.1 c1)), fun c1 => (g_at g_q4 rfl (g_at g_q4 rfl ⟨rfl, (g_at g_q4 rfl (g_at g_q4 rfl ⟨rfl, (g_at g_q4 rfl (g_at g_q4 rfl ⟨_, rfl, rfl, (h.2 c1).1, (g_at g_q4 rfl (g_at g_q4 rfl ⟨rfl, (g_at g_q4 rfl ⟨rfl, (g_at g_q4 rfl (g_at g_q4 rfl (g_at g_q4 rfl ⟨rfl, rfl, (g_at g_q4 rfl (((h.2 c1).2 _ rfl) _ rfl))⟩)))⟩)⟩))⟩))⟩))⟩))⟩))⟩))
set_option maxRecDepth 20000 in
theorem t5_0 {E : g_E} {d : Nat} {R : g_R} {σ : g_S} {t1 : Nat} {x2 : Int32} (ht1 : g_Tw t1) (h : (g_wp E d) 106 [.int (σ t1 1), .int (σ t1 2)] σ (g_ri fun r3 s1 => ∀ s4 : g_S, s4 = g_up s1 42 0 r3 → ∀ s5 : g_S, s5 = g_up s4 41 1 (1 : Int32) → g_g E (g_wp E d) 5 68 [some (.ref 41), some (.ref t1), none, some (.int ((((x2 - (36 : Int32)) * (σ t1 3)) / (36 : Int32)) + (σ t1 5))), some (.int ((σ t1 4) + (σ t1 6))), some (.int (if (if 0 ≤ ((((x2 - (36 : Int32)) * (σ t1 3)) / (36 : Int32)) + (σ t1 5)) then ((((x2 - (36 : Int32)) * (σ t1 3)) / (36 : Int32)) + (σ t1 5)) else 0 - ((((x2 - (36 : Int32)) * (σ t1 3)) / (36 : Int32)) + (σ t1 5))) < (if 0 ≤ ((σ t1 4) + (σ t1 6)) then ((σ t1 4) + (σ t1 6)) else 0 - ((σ t1 4) + (σ t1 6))) then (if 0 ≤ ((σ t1 4) + (σ t1 6)) then ((σ t1 4) + (σ t1 6)) else 0 - ((σ t1 4) + (σ t1 6))) else (if 0 ≤ ((((x2 - (36 : Int32)) * (σ t1 3)) / (36 : Int32)) + (σ t1 5)) then ((((x2 - (36 : Int32)) * (σ t1 3)) / (36 : Int32)) + (σ t1 5)) else 0 - ((((x2 - (36 : Int32)) * (σ t1 3)) / (36 : Int32)) + (σ t1 5))))), some (.int 1), none] [] s5 R)) : g_wp E (d + 1) 5 [.ref 41, .ref t1, .int x2] σ R :=
set_option maxRecDepth 20000 in
  show g_g E (g_wp E d) 5 0 [some (.ref 41), some (.ref t1), some (.int x2), none, none, none, none, none] [] σ R from (g_at g_q5 rfl (g_at g_q5 rfl (g_at g_q5 rfl (g_at g_q5 rfl (g_at g_q5 rfl ⟨(g_tk0 ht1), (g_at g_q5 rfl (g_at g_q5 rfl (g_at g_q5 rfl ⟨(by decide), (g_at g_q5 rfl (g_at g_q5 rfl ⟨(g_tk0 ht1), (g_at g_q5 rfl (g_at g_q5 rfl (g_at g_q5 rfl (g_at g_q5 rfl ⟨(g_tk0 ht1), (g_at g_q5 rfl (g_at g_q5 rfl ⟨(g_tk0 ht1), (g_at g_q5 rfl (g_at g_q5 rfl (g_at g_q5 rfl (g_at g_q5 rfl ⟨rfl, (g_at g_q5 rfl (g_at g_q5 rfl ⟨rfl, (g_at g_q5 rfl ⟨rfl, (g_at g_q5 rfl (g_at g_q5 rfl (g_at g_q5 rfl ⟨rfl, (g_at g_q5 rfl (g_at g_q5 rfl (g_at g_q5 rfl ⟨(g_tk0 ht1), (g_at g_q5 rfl (g_at g_q5 rfl ⟨(g_tk0 ht1), (g_at g_q5 rfl ⟨rfl, rfl, _, h, g_c1 (fun r3 s1 h2 => (g_at g_q5 rfl ⟨_, rfl, rfl, (vp_in_nI (n := 0) (N := 9) (Nat.le_of_ble_eq_true rfl) (Nat.le_of_ble_eq_true rfl)), (g_at g_q5 rfl (g_at g_q5 rfl (g_at g_q5 rfl ⟨rfl, rfl, (g_at g_q5 rfl (g_at g_q5 rfl (g_wk' (L0 := [some (.ref 41), some (.ref t1), none, some (.int ((((x2 - (36 : Int32)) * (σ t1 3)) / (36 : Int32)) + (σ t1 5))), some (.int ((σ t1 4) + (σ t1 6))), some (.int (if (if 0 ≤ ((((x2 - (36 : Int32)) * (σ t1 3)) / (36 : Int32)) + (σ t1 5)) then ((((x2 - (36 : Int32)) * (σ t1 3)) / (36 : Int32)) + (σ t1 5)) else 0 - ((((x2 - (36 : Int32)) * (σ t1 3)) / (36 : Int32)) + (σ t1 5))) < (if 0 ≤ ((σ t1 4) + (σ t1 6)) then ((σ t1 4) + (σ t1 6)) else 0 - ((σ t1 4) + (σ t1 6))) then (if 0 ≤ ((σ t1 4) + (σ t1 6)) then ((σ t1 4) + (σ t1 6)) else 0 - ((σ t1 4) + (σ t1 6))) else (if 0 ≤ ((((x2 - (36 : Int32)) * (σ t1 3)) / (36 : Int32)) + (σ t1 5)) then ((((x2 - (36 : Int32)) * (σ t1 3)) / (36 : Int32)) + (σ t1 5)) else 0 - ((((x2 - (36 : Int32)) * (σ t1 3)) / (36 : Int32)) + (σ t1 5))))), some (.int 1), none]) ((h2 _ rfl) _ rfl) ⟨rfl, ⟨rfl, ⟨rfl, ⟨rfl, ⟨rfl, ⟨rfl, trivial⟩⟩⟩⟩⟩⟩)))⟩)))⟩))⟩)⟩))⟩)))⟩)))⟩)⟩))⟩))))⟩))⟩))))⟩))⟩)))⟩)))))
set_option maxRecDepth 20000 in
theorem t5_68 {E : g_E} {O : g_O} {R : g_R} {σ : g_S} {x3 : Int32} {x4 : Int32} {x5 : Int32} {x6 : Int32} {t1 : Nat} (ht1 : g_Tw t1) (h : ((x5 < x6 → R none σ) ∧ (¬ (x5 < x6) → (((9 : Int32) ≤ σ 41 1 → R none σ) ∧ (¬ ((9 : Int32) ≤ σ 41 1) → ¬ x5 = 0 ∧ ¬ x5 = 0 ∧ O 106 [.int ((σ t1 1) + ((x6 * x3) / x5)), .int ((σ t1 2) - ((x6 * x4) / x5))] σ (g_ri fun r10 s8 => ((r10 = (-1000000 : Int32) → R none s8) ∧ (¬ (r10 = (-1000000 : Int32)) → O 54 [.ref t1, .int r10] s8 (g_ri fun r14 s12 => ((r14 = 0 → vp_in (s12 41 1) 9 ∧ ∀ s16 : g_S, s16 = g_up s12 42 ((s12 41 1).toNatClampNeg) r10 → ∀ s17 : g_S, s17 = g_up s16 41 1 ((s12 41 1) + (1 : Int32)) → g_g E O 5 68 [some (.ref 41), some (.ref t1), none, some (.int x3), some (.int x4), some (.int x5), some (.int (x6 + (1 : Int32))), none] [] s17 R) ∧ (¬ (r14 = 0) → R none s12))))))))))) : g_g E O 5 68 [some (.ref 41), some (.ref t1), none, some (.int x3), some (.int x4), some (.int x5), some (.int x6), none] [] σ R :=
  (g_at g_q5 rfl (g_at g_q5 rfl (g_at g_q5 rfl ⟨fun c6 => (g_at g_q5 rfl (h.1 c6)), fun c6 => (g_at g_q5 rfl (g_at g_q5 rfl ⟨rfl, (g_at g_q5 rfl (g_at g_q5 rfl ⟨fun c7 => (g_at g_q5 rfl ((h.2 c6).1 c7)), fun c7 => (g_at g_q5 rfl (g_at g_q5 rfl ⟨(g_tk0 ht1), (g_at g_q5 rfl (g_at g_q5 rfl (g_at g_q5 rfl (g_at g_q5 rfl (g_at g_q5 rfl ⟨((h.2 c6).2 c7).1, (g_at g_q5 rfl (g_at g_q5 rfl (g_at g_q5 rfl ⟨(g_tk0 ht1), (g_at g_q5 rfl (g_at g_q5 rfl (g_at g_q5 rfl (g_at g_q5 rfl (g_at g_q5 rfl ⟨((h.2 c6).2 c7).2.1, (g_at g_q5 rfl (g_at g_q5 rfl ⟨rfl, rfl, _, ((h.2 c6).2 c7).2.2, g_c1 (fun r10 s8 h9 => (g_at g_q5 rfl (g_at g_q5 rfl (g_at g_q5 rfl (g_at g_q5 rfl ⟨fun c11 => (g_at g_q5 rfl (h9.1 c11)), fun c11 => (g_at g_q5 rfl (g_at g_q5 rfl (g_at g_q5 rfl ⟨(g_tk0 ht1), rfl, rfl, _, (h9.2 c11), g_c1 (fun r14 s12 h13 => (g_at g_q5 rfl ⟨fun c15 => (g_at g_q5 rfl (g_at g_q5 rfl ⟨rfl, (g_at g_q5 rfl (g_at g_q5 rfl ⟨rfl, (g_at g_q5 rfl (g_at g_q5 rfl ⟨_, rfl, rfl, (h13.1 c15).1, (g_at g_q5 rfl (g_at g_q5 rfl ⟨rfl, (g_at g_q5 rfl ⟨rfl, (g_at g_q5 rfl (g_at g_q5 rfl (g_at g_q5 rfl ⟨rfl, rfl, (g_at g_q5 rfl (g_at g_q5 rfl (g_wk' (L0 := [some (.ref 41), some (.ref t1), none, some (.int x3), some (.int x4), some (.int x5), some (.int (x6 + (1 : Int32))), none]) (((h13.1 c15).2 _ rfl) _ rfl) ⟨rfl, ⟨rfl, ⟨rfl, ⟨rfl, ⟨rfl, ⟨rfl, trivial⟩⟩⟩⟩⟩⟩)))⟩)))⟩)⟩))⟩))⟩))⟩)), fun c15 => (g_at g_q5 rfl (h13.2 c15))⟩))⟩)))⟩)))))⟩))⟩)))))⟩)))⟩)))))⟩))⟩))⟩))⟩)))
set_option maxRecDepth 20000 in
theorem t6_0 {E : g_E} {d : Nat} {R : g_R} {σ : g_S} {x1 : Int32}  (h : g_g E (g_wp E d) 6 2 [some (.ref 41), some (.int x1), some (.int 0)] [] σ R) : g_wp E (d + 1) 6 [.ref 41, .int x1] σ R :=
set_option maxRecDepth 20000 in
  show g_g E (g_wp E d) 6 0 [some (.ref 41), some (.int x1), none] [] σ R from (g_at g_q6 rfl (g_at g_q6 rfl h))
set_option maxRecDepth 20000 in
theorem t6_2 {E : g_E} {O : g_O} {R : g_R} {σ : g_S} {x1 : Int32} {x2 : Int32}  (h : ((σ 41 1 ≤ x2 → R (some (.int 0)) σ) ∧ (¬ (σ 41 1 ≤ x2) → vp_in x2 9 ∧ ((¬ σ 42 x2.toNatClampNeg = x1 → g_g E O 6 2 [some (.ref 41), some (.int x1), some (.int (x2 + (1 : Int32)))] [] σ R) ∧ (¬ (¬ σ 42 x2.toNatClampNeg = x1) → R (some (.int 1)) σ))))) : g_g E O 6 2 [some (.ref 41), some (.int x1), some (.int x2)] [] σ R :=
  (g_at g_q6 rfl (g_at g_q6 rfl (g_at g_q6 rfl ⟨rfl, (g_at g_q6 rfl ⟨fun c1 => (g_at g_q6 rfl (g_at g_q6 rfl ⟨(by decide), (h.1 c1)⟩)), fun c1 => (g_at g_q6 rfl (g_at g_q6 rfl ⟨rfl, (g_at g_q6 rfl (g_at g_q6 rfl ⟨_, rfl, rfl, (h.2 c1).1, (g_at g_q6 rfl (g_at g_q6 rfl ⟨fun c2 => (g_at g_q6 rfl (g_at g_q6 rfl ((h.2 c1).2.1 c2))), fun c2 => (g_at g_q6 rfl (g_at g_q6 rfl ⟨(by decide), ((h.2 c1).2.2 c2)⟩))⟩))⟩))⟩))⟩)⟩)))
set_option maxRecDepth 20000 in
theorem t7_0 {E : g_E} {d : Nat} {R : g_R} {σ : g_S} {t1 : Nat} {x2 : Int32} (ht1 : g_Tw t1) (h : vp_in x2 73 ∧ ((¬ σ (t1 + 2) x2.toNatClampNeg = (1 : Int32) → (g_wp E d) 5 [.ref 41, .ref t1, .int x2] σ (g_r0 fun s2 => g_g E (g_wp E d) 7 23 [some (.ref 41), some (.ref t1), some (.int x2), some (.int 0), some (.int 0)] [] s2 R)) ∧ (¬ (¬ σ (t1 + 2) x2.toNatClampNeg = (1 : Int32)) → R (some (.int (0 : Int32))) σ))) : g_wp E (d + 1) 7 [.ref 41, .ref t1, .int x2] σ R :=
set_option maxRecDepth 20000 in
  show g_g E (g_wp E d) 7 0 [some (.ref 41), some (.ref t1), some (.int x2), none, none] [] σ R from (g_at g_q7 rfl (g_at g_q7 rfl ⟨(g_tk0 ht1), (g_at g_q7 rfl (g_at g_q7 rfl ⟨_, (g_tk2 ht1), (g_tl2 ht1), h.1, (g_at g_q7 rfl (g_at g_q7 rfl ⟨fun c1 => (g_at g_q7 rfl (g_at g_q7 rfl (g_at g_q7 rfl (g_at g_q7 rfl ⟨rfl, rfl, rfl, _, (h.2.1 c1), g_c0 (fun s2 h3 => (g_at g_q7 rfl (g_at g_q7 rfl (g_at g_q7 rfl (g_at g_q7 rfl h3)))))⟩)))), fun c1 => (g_at g_q7 rfl (g_at g_q7 rfl ⟨rfl, (h.2.2 c1)⟩))⟩))⟩))⟩))
set_option maxRecDepth 20000 in
theorem t7_23 {E : g_E} {O : g_O} {R : g_R} {σ : g_S} {x2 : Int32} {x3 : Int32} {x4 : Int32} {t1 : Nat} (ht1 : g_Tw t1) (h : ((σ t1 8 ≤ x4 → R (some (.int x3)) σ) ∧ (¬ (σ t1 8 ≤ x4) → vp_in x4 8 ∧ vp_in x4 8 ∧ O 12 [.ref 41, .int (σ (t1 + 3) x4.toNatClampNeg), .int (σ (t1 + 4) x4.toNatClampNeg), .int x2] σ (g_ri fun r7 s5 => ((r7 = 0 → g_g E O 7 23 [some (.ref 41), some (.ref t1), some (.int x2), some (.int (x3 ||| (0 : Int32))), some (.int (x4 + (1 : Int32)))] [] s5 R) ∧ (¬ (r7 = 0) → g_g E O 7 23 [some (.ref 41), some (.ref t1), some (.int x2), some (.int (x3 ||| ((1 : Int32) <<< (x4 &&& 31)))), some (.int (x4 + (1 : Int32)))] [] s5 R)))))) : g_g E O 7 23 [some (.ref 41), some (.ref t1), some (.int x2), some (.int x3), some (.int x4)] [] σ R :=
  (g_at g_q7 rfl (g_at g_q7 rfl (g_at g_q7 rfl ⟨(g_tk0 ht1), (g_at g_q7 rfl ⟨fun c4 => (g_at g_q7 rfl (g_at g_q7 rfl ⟨rfl, (h.1 c4)⟩)), fun c4 => (g_at g_q7 rfl (g_at g_q7 rfl (g_at g_q7 rfl (g_at g_q7 rfl ⟨(g_tk0 ht1), (g_at g_q7 rfl (g_at g_q7 rfl ⟨_, (g_tk3 ht1), (g_tl3 ht1), (h.2 c4).1, (g_at g_q7 rfl (g_at g_q7 rfl ⟨(g_tk0 ht1), (g_at g_q7 rfl (g_at g_q7 rfl ⟨_, (g_tk4 ht1), (g_tl4 ht1), (h.2 c4).2.1, (g_at g_q7 rfl (g_at g_q7 rfl ⟨rfl, rfl, rfl, _, (h.2 c4).2.2, g_c1 (fun r7 s5 h6 => (g_at g_q7 rfl ⟨fun c8 => (g_at g_q7 rfl (g_at g_q7 rfl (g_at g_q7 rfl (g_at g_q7 rfl (g_at g_q7 rfl (h6.1 c8)))))), fun c8 => (g_at g_q7 rfl (g_at g_q7 rfl (g_at g_q7 rfl (g_at g_q7 rfl (g_at g_q7 rfl (g_at g_q7 rfl (g_at g_q7 rfl (g_at g_q7 rfl (h6.2 c8)))))))))⟩))⟩))⟩))⟩))⟩))⟩))))⟩)⟩)))
end

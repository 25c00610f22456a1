section
-- ===== PART A: goes FIRST, ahead of the names: the tables' words, and 'selects' of the private methods out of them =====
/-- a private method of a class that the tables say can be made, by its rows of tables_1 -/
def lw_okq (q : MethodName × Nat) : Prop := (q.1.cls ≠ "java/lang/invoke/MethodHandle" ∧ q.1.cls ≠ "java/lang/invoke/VarHandle") ∧ Cond.instantiable q.1.cls q.2 ∈ tables_1 ∧ Cond.privateMethod q.1 ∈ tables_1 ∧ Cond.instanceMethod q.1 ∈ tables_1
theorem lw_p0 : lw_okq (⟨"ChoristerKeys$Reader", "readToken", "()V"⟩, 7) := ⟨⟨by decide +kernel, by decide +kernel⟩, List.mem_of_getElem? (i := 23) (by decide +kernel), List.mem_of_getElem? (i := 333) (by decide +kernel), List.mem_of_getElem? (i := 334) (by decide +kernel)⟩
theorem lw_p1 : lw_okq (⟨"ChoristerKeys$Reader", "readItem", "(LChoristerKeys$City;I)Z"⟩, 7) := ⟨⟨by decide +kernel, by decide +kernel⟩, List.mem_of_getElem? (i := 23) (by decide +kernel), List.mem_of_getElem? (i := 346) (by decide +kernel), List.mem_of_getElem? (i := 347) (by decide +kernel)⟩
theorem lw_p2 : lw_okq (⟨"ChoristerKeys$Reader", "readPlaces", "(LChoristerKeys$City;)Z"⟩, 7) := ⟨⟨by decide +kernel, by decide +kernel⟩, List.mem_of_getElem? (i := 23) (by decide +kernel), List.mem_of_getElem? (i := 350) (by decide +kernel), List.mem_of_getElem? (i := 351) (by decide +kernel)⟩
theorem lw_p3 : lw_okq (⟨"ChoristerKeys$Reader", "readNumber", "(II)Z"⟩, 7) := ⟨⟨by decide +kernel, by decide +kernel⟩, List.mem_of_getElem? (i := 23) (by decide +kernel), List.mem_of_getElem? (i := 354) (by decide +kernel), List.mem_of_getElem? (i := 355) (by decide +kernel)⟩
theorem lw_p4 : lw_okq (⟨"ChoristerKeys$Reader", "readClose", "()Z"⟩, 7) := ⟨⟨by decide +kernel, by decide +kernel⟩, List.mem_of_getElem? (i := 23) (by decide +kernel), List.mem_of_getElem? (i := 359) (by decide +kernel), List.mem_of_getElem? (i := 360) (by decide +kernel)⟩
theorem lw_p5 : lw_okq (⟨"ChoristerKeys$Reader", "readDoor", "(LChoristerKeys$City;)Z"⟩, 7) := ⟨⟨by decide +kernel, by decide +kernel⟩, List.mem_of_getElem? (i := 23) (by decide +kernel), List.mem_of_getElem? (i := 363) (by decide +kernel), List.mem_of_getElem? (i := 364) (by decide +kernel)⟩
theorem lw_p6 : lw_okq (⟨"ChoristerKeys$Reader", "readBoy", "(LChoristerKeys$City;)Z"⟩, 7) := ⟨⟨by decide +kernel, by decide +kernel⟩, List.mem_of_getElem? (i := 23) (by decide +kernel), List.mem_of_getElem? (i := 367) (by decide +kernel), List.mem_of_getElem? (i := 368) (by decide +kernel)⟩
theorem lw_p7 : lw_okq (⟨"ChoristerKeys$Reader", "readStep", "(LChoristerKeys$City;)Z"⟩, 7) := ⟨⟨by decide +kernel, by decide +kernel⟩, List.mem_of_getElem? (i := 23) (by decide +kernel), List.mem_of_getElem? (i := 371) (by decide +kernel), List.mem_of_getElem? (i := 372) (by decide +kernel)⟩
theorem lw_p8 : lw_okq (⟨"ChoristerKeys", "isDoor", "(I)Z"⟩, 12) := ⟨⟨by decide +kernel, by decide +kernel⟩, List.mem_of_getElem? (i := 15) (by decide +kernel), List.mem_of_getElem? (i := 387) (by decide +kernel), List.mem_of_getElem? (i := 388) (by decide +kernel)⟩
theorem lw_p9 : lw_okq (⟨"ChoristerKeys", "isBoy", "(I)Z"⟩, 12) := ⟨⟨by decide +kernel, by decide +kernel⟩, List.mem_of_getElem? (i := 15) (by decide +kernel), List.mem_of_getElem? (i := 420) (by decide +kernel), List.mem_of_getElem? (i := 421) (by decide +kernel)⟩
theorem lw_p10 : lw_okq (⟨"ChoristerKeys$Choir", "spread", "(II)I"⟩, 2) := ⟨⟨by decide +kernel, by decide +kernel⟩, List.mem_of_getElem? (i := 191) (by decide +kernel), List.mem_of_getElem? (i := 436) (by decide +kernel), List.mem_of_getElem? (i := 437) (by decide +kernel)⟩
theorem lw_p11 : lw_okq (⟨"ChoristerKeys$Keyring", "takeKeys", "()V"⟩, 2) := ⟨⟨by decide +kernel, by decide +kernel⟩, List.mem_of_getElem? (i := 208) (by decide +kernel), List.mem_of_getElem? (i := 457) (by decide +kernel), List.mem_of_getElem? (i := 458) (by decide +kernel)⟩
theorem lw_p12 : lw_okq (⟨"ChoristerKeys$Keyring", "allBoys", "()I"⟩, 2) := ⟨⟨by decide +kernel, by decide +kernel⟩, List.mem_of_getElem? (i := 208) (by decide +kernel), List.mem_of_getElem? (i := 462) (by decide +kernel), List.mem_of_getElem? (i := 463) (by decide +kernel)⟩
theorem lw_p13 : lw_okq (⟨"ChoristerKeys$Keyring", "allDoors", "()I"⟩, 2) := ⟨⟨by decide +kernel, by decide +kernel⟩, List.mem_of_getElem? (i := 208) (by decide +kernel), List.mem_of_getElem? (i := 466) (by decide +kernel), List.mem_of_getElem? (i := 467) (by decide +kernel)⟩
theorem lw_p14 : lw_okq (⟨"ChoristerKeys$Keyring", "mostOf", "(II)I"⟩, 2) := ⟨⟨by decide +kernel, by decide +kernel⟩, List.mem_of_getElem? (i := 208) (by decide +kernel), List.mem_of_getElem? (i := 535) (by decide +kernel), List.mem_of_getElem? (i := 536) (by decide +kernel)⟩
theorem lw_p15 : lw_okq (⟨"ChoristerKeys$Keyring", "lowestPost", "(IIII)I"⟩, 2) := ⟨⟨by decide +kernel, by decide +kernel⟩, List.mem_of_getElem? (i := 208) (by decide +kernel), List.mem_of_getElem? (i := 544) (by decide +kernel), List.mem_of_getElem? (i := 545) (by decide +kernel)⟩
def lw_privs_1 : List (MethodName × Nat) := [(⟨"ChoristerKeys$Reader", "readToken", "()V"⟩, 7), (⟨"ChoristerKeys$Reader", "readItem", "(LChoristerKeys$City;I)Z"⟩, 7), (⟨"ChoristerKeys$Reader", "readPlaces", "(LChoristerKeys$City;)Z"⟩, 7), (⟨"ChoristerKeys$Reader", "readNumber", "(II)Z"⟩, 7), (⟨"ChoristerKeys$Reader", "readClose", "()Z"⟩, 7), (⟨"ChoristerKeys$Reader", "readDoor", "(LChoristerKeys$City;)Z"⟩, 7), (⟨"ChoristerKeys$Reader", "readBoy", "(LChoristerKeys$City;)Z"⟩, 7), (⟨"ChoristerKeys$Reader", "readStep", "(LChoristerKeys$City;)Z"⟩, 7), (⟨"ChoristerKeys", "isDoor", "(I)Z"⟩, 12), (⟨"ChoristerKeys", "isBoy", "(I)Z"⟩, 12), (⟨"ChoristerKeys$Choir", "spread", "(II)I"⟩, 2), (⟨"ChoristerKeys$Keyring", "takeKeys", "()V"⟩, 2), (⟨"ChoristerKeys$Keyring", "allBoys", "()I"⟩, 2), (⟨"ChoristerKeys$Keyring", "allDoors", "()I"⟩, 2), (⟨"ChoristerKeys$Keyring", "mostOf", "(II)I"⟩, 2), (⟨"ChoristerKeys$Keyring", "lowestPost", "(IIII)I"⟩, 2)]
theorem lw_r1 : ∀ q ∈ lw_privs_1, lw_okq q := List.forall_mem_cons.mpr ⟨lw_p0, List.forall_mem_cons.mpr ⟨lw_p1, List.forall_mem_cons.mpr ⟨lw_p2, List.forall_mem_cons.mpr ⟨lw_p3, List.forall_mem_cons.mpr ⟨lw_p4, List.forall_mem_cons.mpr ⟨lw_p5, List.forall_mem_cons.mpr ⟨lw_p6, List.forall_mem_cons.mpr ⟨lw_p7, List.forall_mem_cons.mpr ⟨lw_p8, List.forall_mem_cons.mpr ⟨lw_p9, List.forall_mem_cons.mpr ⟨lw_p10, List.forall_mem_cons.mpr ⟨lw_p11, List.forall_mem_cons.mpr ⟨lw_p12, List.forall_mem_cons.mpr ⟨lw_p13, List.forall_mem_cons.mpr ⟨lw_p14, List.forall_mem_cons.mpr ⟨lw_p15, fun _ h => absurd h List.not_mem_nil⟩⟩⟩⟩⟩⟩⟩⟩⟩⟩⟩⟩⟩⟩⟩⟩
theorem lw_p16 : lw_okq (⟨"ChoristerKeys$Choir", "singersOf", "(I)I"⟩, 2) := ⟨⟨by decide +kernel, by decide +kernel⟩, List.mem_of_getElem? (i := 191) (by decide +kernel), List.mem_of_getElem? (i := 556) (by decide +kernel), List.mem_of_getElem? (i := 557) (by decide +kernel)⟩
theorem lw_p17 : lw_okq (⟨"ChoristerKeys$Chances", "weighNumbers", "(II)V"⟩, 3) := ⟨⟨by decide +kernel, by decide +kernel⟩, List.mem_of_getElem? (i := 221) (by decide +kernel), List.mem_of_getElem? (i := 583) (by decide +kernel), List.mem_of_getElem? (i := 584) (by decide +kernel)⟩
theorem lw_p18 : lw_okq (⟨"ChoristerKeys$Kinds", "asBoy", "(I)I"⟩, 2) := ⟨⟨by decide +kernel, by decide +kernel⟩, List.mem_of_getElem? (i := 259) (by decide +kernel), List.mem_of_getElem? (i := 631) (by decide +kernel), List.mem_of_getElem? (i := 632) (by decide +kernel)⟩
theorem lw_p19 : lw_okq (⟨"ChoristerKeys$Kinds", "asTreble", "(I)I"⟩, 2) := ⟨⟨by decide +kernel, by decide +kernel⟩, List.mem_of_getElem? (i := 259) (by decide +kernel), List.mem_of_getElem? (i := 635) (by decide +kernel), List.mem_of_getElem? (i := 636) (by decide +kernel)⟩
theorem lw_p20 : lw_okq (⟨"ChoristerKeys$Kinds", "asAlto", "(I)I"⟩, 2) := ⟨⟨by decide +kernel, by decide +kernel⟩, List.mem_of_getElem? (i := 259) (by decide +kernel), List.mem_of_getElem? (i := 641) (by decide +kernel), List.mem_of_getElem? (i := 642) (by decide +kernel)⟩
theorem lw_p21 : lw_okq (⟨"ChoristerKeys$Kinds", "asSoloist", "(I)I"⟩, 2) := ⟨⟨by decide +kernel, by decide +kernel⟩, List.mem_of_getElem? (i := 259) (by decide +kernel), List.mem_of_getElem? (i := 648) (by decide +kernel), List.mem_of_getElem? (i := 649) (by decide +kernel)⟩
theorem lw_p22 : lw_okq (⟨"ChoristerKeys$Kinds", "asTwin", "(I)I"⟩, 2) := ⟨⟨by decide +kernel, by decide +kernel⟩, List.mem_of_getElem? (i := 259) (by decide +kernel), List.mem_of_getElem? (i := 653) (by decide +kernel), List.mem_of_getElem? (i := 654) (by decide +kernel)⟩
theorem lw_p23 : lw_okq (⟨"ChoristerKeys$Kinds", "asBass", "(I)I"⟩, 2) := ⟨⟨by decide +kernel, by decide +kernel⟩, List.mem_of_getElem? (i := 259) (by decide +kernel), List.mem_of_getElem? (i := 658) (by decide +kernel), List.mem_of_getElem? (i := 659) (by decide +kernel)⟩
theorem lw_p24 : lw_okq (⟨"ChoristerKeysModel", "begins", "()V"⟩, 27) := ⟨⟨by decide +kernel, by decide +kernel⟩, List.mem_of_getElem? (i := 681) (by decide +kernel), List.mem_of_getElem? (i := 687) (by decide +kernel), List.mem_of_getElem? (i := 688) (by decide +kernel)⟩
theorem lw_p25 : lw_okq (⟨"ChoristerKeysModel", "settles", "()V"⟩, 27) := ⟨⟨by decide +kernel, by decide +kernel⟩, List.mem_of_getElem? (i := 681) (by decide +kernel), List.mem_of_getElem? (i := 691) (by decide +kernel), List.mem_of_getElem? (i := 692) (by decide +kernel)⟩
theorem lw_p26 : lw_okq (⟨"ChoristerKeysModel", "advances", "()V"⟩, 27) := ⟨⟨by decide +kernel, by decide +kernel⟩, List.mem_of_getElem? (i := 681) (by decide +kernel), List.mem_of_getElem? (i := 792) (by decide +kernel), List.mem_of_getElem? (i := 793) (by decide +kernel)⟩
theorem lw_p27 : lw_okq (⟨"ChoristerKeysModel", "letterAt", "(I)I"⟩, 27) := ⟨⟨by decide +kernel, by decide +kernel⟩, List.mem_of_getElem? (i := 681) (by decide +kernel), List.mem_of_getElem? (i := 796) (by decide +kernel), List.mem_of_getElem? (i := 797) (by decide +kernel)⟩
theorem lw_p28 : lw_okq (⟨"ChoristerKeysModel", "isWell", "()Z"⟩, 27) := ⟨⟨by decide +kernel, by decide +kernel⟩, List.mem_of_getElem? (i := 681) (by decide +kernel), List.mem_of_getElem? (i := 803) (by decide +kernel), List.mem_of_getElem? (i := 804) (by decide +kernel)⟩
theorem lw_p29 : lw_okq (⟨"ChoristerKeysModel", "mayBegin", "(I)Z"⟩, 27) := ⟨⟨by decide +kernel, by decide +kernel⟩, List.mem_of_getElem? (i := 681) (by decide +kernel), List.mem_of_getElem? (i := 807) (by decide +kernel), List.mem_of_getElem? (i := 808) (by decide +kernel)⟩
theorem lw_p30 : lw_okq (⟨"ChoristerKeysModel", "takes", "(Z)I"⟩, 27) := ⟨⟨by decide +kernel, by decide +kernel⟩, List.mem_of_getElem? (i := 681) (by decide +kernel), List.mem_of_getElem? (i := 811) (by decide +kernel), List.mem_of_getElem? (i := 812) (by decide +kernel)⟩
theorem lw_p31 : lw_okq (⟨"ChoristerKeysModel", "readsItem", "(I)V"⟩, 27) := ⟨⟨by decide +kernel, by decide +kernel⟩, List.mem_of_getElem? (i := 681) (by decide +kernel), List.mem_of_getElem? (i := 815) (by decide +kernel), List.mem_of_getElem? (i := 816) (by decide +kernel)⟩
def lw_privs_2 : List (MethodName × Nat) := [(⟨"ChoristerKeys$Choir", "singersOf", "(I)I"⟩, 2), (⟨"ChoristerKeys$Chances", "weighNumbers", "(II)V"⟩, 3), (⟨"ChoristerKeys$Kinds", "asBoy", "(I)I"⟩, 2), (⟨"ChoristerKeys$Kinds", "asTreble", "(I)I"⟩, 2), (⟨"ChoristerKeys$Kinds", "asAlto", "(I)I"⟩, 2), (⟨"ChoristerKeys$Kinds", "asSoloist", "(I)I"⟩, 2), (⟨"ChoristerKeys$Kinds", "asTwin", "(I)I"⟩, 2), (⟨"ChoristerKeys$Kinds", "asBass", "(I)I"⟩, 2), (⟨"ChoristerKeysModel", "begins", "()V"⟩, 27), (⟨"ChoristerKeysModel", "settles", "()V"⟩, 27), (⟨"ChoristerKeysModel", "advances", "()V"⟩, 27), (⟨"ChoristerKeysModel", "letterAt", "(I)I"⟩, 27), (⟨"ChoristerKeysModel", "isWell", "()Z"⟩, 27), (⟨"ChoristerKeysModel", "mayBegin", "(I)Z"⟩, 27), (⟨"ChoristerKeysModel", "takes", "(Z)I"⟩, 27), (⟨"ChoristerKeysModel", "readsItem", "(I)V"⟩, 27)]
theorem lw_r2 : ∀ q ∈ lw_privs_2, lw_okq q := List.forall_mem_cons.mpr ⟨lw_p16, List.forall_mem_cons.mpr ⟨lw_p17, List.forall_mem_cons.mpr ⟨lw_p18, List.forall_mem_cons.mpr ⟨lw_p19, List.forall_mem_cons.mpr ⟨lw_p20, List.forall_mem_cons.mpr ⟨lw_p21, List.forall_mem_cons.mpr ⟨lw_p22, List.forall_mem_cons.mpr ⟨lw_p23, List.forall_mem_cons.mpr ⟨lw_p24, List.forall_mem_cons.mpr ⟨lw_p25, List.forall_mem_cons.mpr ⟨lw_p26, List.forall_mem_cons.mpr ⟨lw_p27, List.forall_mem_cons.mpr ⟨lw_p28, List.forall_mem_cons.mpr ⟨lw_p29, List.forall_mem_cons.mpr ⟨lw_p30, List.forall_mem_cons.mpr ⟨lw_p31, fun _ h => absurd h List.not_mem_nil⟩⟩⟩⟩⟩⟩⟩⟩⟩⟩⟩⟩⟩⟩⟩⟩
theorem lw_p32 : lw_okq (⟨"ChoristerKeysModel", "number", "(II)I"⟩, 27) := ⟨⟨by decide +kernel, by decide +kernel⟩, List.mem_of_getElem? (i := 681) (by decide +kernel), List.mem_of_getElem? (i := 819) (by decide +kernel), List.mem_of_getElem? (i := 820) (by decide +kernel)⟩
theorem lw_p33 : lw_okq (⟨"ChoristerKeysModel", "isDoor", "(I)Z"⟩, 27) := ⟨⟨by decide +kernel, by decide +kernel⟩, List.mem_of_getElem? (i := 681) (by decide +kernel), List.mem_of_getElem? (i := 827) (by decide +kernel), List.mem_of_getElem? (i := 828) (by decide +kernel)⟩
theorem lw_p34 : lw_okq (⟨"ChoristerKeysModel", "openers", "(I)I"⟩, 27) := ⟨⟨by decide +kernel, by decide +kernel⟩, List.mem_of_getElem? (i := 681) (by decide +kernel), List.mem_of_getElem? (i := 831) (by decide +kernel), List.mem_of_getElem? (i := 832) (by decide +kernel)⟩
theorem lw_p35 : lw_okq (⟨"ChoristerKeysModel", "keys", "(I)I"⟩, 27) := ⟨⟨by decide +kernel, by decide +kernel⟩, List.mem_of_getElem? (i := 681) (by decide +kernel), List.mem_of_getElem? (i := 835) (by decide +kernel), List.mem_of_getElem? (i := 836) (by decide +kernel)⟩
theorem lw_p36 : lw_okq (⟨"ChoristerKeysModel", "keysIn", "(II)I"⟩, 27) := ⟨⟨by decide +kernel, by decide +kernel⟩, List.mem_of_getElem? (i := 681) (by decide +kernel), List.mem_of_getElem? (i := 839) (by decide +kernel), List.mem_of_getElem? (i := 840) (by decide +kernel)⟩
theorem lw_p37 : lw_okq (⟨"ChoristerKeysModel", "lowest", "(II)I"⟩, 27) := ⟨⟨by decide +kernel, by decide +kernel⟩, List.mem_of_getElem? (i := 681) (by decide +kernel), List.mem_of_getElem? (i := 846) (by decide +kernel), List.mem_of_getElem? (i := 847) (by decide +kernel)⟩
theorem lw_p38 : lw_okq (⟨"ChoristerKeysModel", "highest", "(III)I"⟩, 27) := ⟨⟨by decide +kernel, by decide +kernel⟩, List.mem_of_getElem? (i := 681) (by decide +kernel), List.mem_of_getElem? (i := 850) (by decide +kernel), List.mem_of_getElem? (i := 851) (by decide +kernel)⟩
theorem lw_p39 : lw_okq (⟨"ChoristerKeysModel", "isBoy", "(I)Z"⟩, 27) := ⟨⟨by decide +kernel, by decide +kernel⟩, List.mem_of_getElem? (i := 681) (by decide +kernel), List.mem_of_getElem? (i := 858) (by decide +kernel), List.mem_of_getElem? (i := 859) (by decide +kernel)⟩
theorem lw_p40 : lw_okq (⟨"ChoristerKeysModel", "reachBy", "(II)I"⟩, 27) := ⟨⟨by decide +kernel, by decide +kernel⟩, List.mem_of_getElem? (i := 681) (by decide +kernel), List.mem_of_getElem? (i := 863) (by decide +kernel), List.mem_of_getElem? (i := 864) (by decide +kernel)⟩
theorem lw_p41 : lw_okq (⟨"ChoristerKeysModel", "wider", "(II)I"⟩, 27) := ⟨⟨by decide +kernel, by decide +kernel⟩, List.mem_of_getElem? (i := 681) (by decide +kernel), List.mem_of_getElem? (i := 867) (by decide +kernel), List.mem_of_getElem? (i := 868) (by decide +kernel)⟩
theorem lw_p42 : lw_okq (⟨"ChoristerKeysModel", "shutOf", "(I)I"⟩, 27) := ⟨⟨by decide +kernel, by decide +kernel⟩, List.mem_of_getElem? (i := 681) (by decide +kernel), List.mem_of_getElem? (i := 871) (by decide +kernel), List.mem_of_getElem? (i := 872) (by decide +kernel)⟩
theorem lw_p43 : lw_okq (⟨"ChoristerKeysModel", "atHome", "()I"⟩, 27) := ⟨⟨by decide +kernel, by decide +kernel⟩, List.mem_of_getElem? (i := 681) (by decide +kernel), List.mem_of_getElem? (i := 879) (by decide +kernel), List.mem_of_getElem? (i := 880) (by decide +kernel)⟩
theorem lw_p44 : lw_okq (⟨"ChoristerKeysModel", "coverOf", "()I"⟩, 27) := ⟨⟨by decide +kernel, by decide +kernel⟩, List.mem_of_getElem? (i := 681) (by decide +kernel), List.mem_of_getElem? (i := 883) (by decide +kernel), List.mem_of_getElem? (i := 884) (by decide +kernel)⟩
theorem lw_p45 : lw_okq (⟨"ChoristerKeysModel", "notes", "()V"⟩, 27) := ⟨⟨by decide +kernel, by decide +kernel⟩, List.mem_of_getElem? (i := 681) (by decide +kernel), List.mem_of_getElem? (i := 894) (by decide +kernel), List.mem_of_getElem? (i := 895) (by decide +kernel)⟩
theorem lw_p46 : lw_okq (⟨"ChoristerKeysModel", "isPlace", "(I)Z"⟩, 27) := ⟨⟨by decide +kernel, by decide +kernel⟩, List.mem_of_getElem? (i := 681) (by decide +kernel), List.mem_of_getElem? (i := 922) (by decide +kernel), List.mem_of_getElem? (i := 923) (by decide +kernel)⟩
theorem lw_p47 : lw_okq (⟨"ChoristerKeysModel", "standing", "(I)I"⟩, 27) := ⟨⟨by decide +kernel, by decide +kernel⟩, List.mem_of_getElem? (i := 681) (by decide +kernel), List.mem_of_getElem? (i := 933) (by decide +kernel), List.mem_of_getElem? (i := 934) (by decide +kernel)⟩
def lw_privs_3 : List (MethodName × Nat) := [(⟨"ChoristerKeysModel", "number", "(II)I"⟩, 27), (⟨"ChoristerKeysModel", "isDoor", "(I)Z"⟩, 27), (⟨"ChoristerKeysModel", "openers", "(I)I"⟩, 27), (⟨"ChoristerKeysModel", "keys", "(I)I"⟩, 27), (⟨"ChoristerKeysModel", "keysIn", "(II)I"⟩, 27), (⟨"ChoristerKeysModel", "lowest", "(II)I"⟩, 27), (⟨"ChoristerKeysModel", "highest", "(III)I"⟩, 27), (⟨"ChoristerKeysModel", "isBoy", "(I)Z"⟩, 27), (⟨"ChoristerKeysModel", "reachBy", "(II)I"⟩, 27), (⟨"ChoristerKeysModel", "wider", "(II)I"⟩, 27), (⟨"ChoristerKeysModel", "shutOf", "(I)I"⟩, 27), (⟨"ChoristerKeysModel", "atHome", "()I"⟩, 27), (⟨"ChoristerKeysModel", "coverOf", "()I"⟩, 27), (⟨"ChoristerKeysModel", "notes", "()V"⟩, 27), (⟨"ChoristerKeysModel", "isPlace", "(I)Z"⟩, 27), (⟨"ChoristerKeysModel", "standing", "(I)I"⟩, 27)]
theorem lw_r3 : ∀ q ∈ lw_privs_3, lw_okq q := List.forall_mem_cons.mpr ⟨lw_p32, List.forall_mem_cons.mpr ⟨lw_p33, List.forall_mem_cons.mpr ⟨lw_p34, List.forall_mem_cons.mpr ⟨lw_p35, List.forall_mem_cons.mpr ⟨lw_p36, List.forall_mem_cons.mpr ⟨lw_p37, List.forall_mem_cons.mpr ⟨lw_p38, List.forall_mem_cons.mpr ⟨lw_p39, List.forall_mem_cons.mpr ⟨lw_p40, List.forall_mem_cons.mpr ⟨lw_p41, List.forall_mem_cons.mpr ⟨lw_p42, List.forall_mem_cons.mpr ⟨lw_p43, List.forall_mem_cons.mpr ⟨lw_p44, List.forall_mem_cons.mpr ⟨lw_p45, List.forall_mem_cons.mpr ⟨lw_p46, List.forall_mem_cons.mpr ⟨lw_p47, fun _ h => absurd h List.not_mem_nil⟩⟩⟩⟩⟩⟩⟩⟩⟩⟩⟩⟩⟩⟩⟩⟩
theorem lw_p48 : lw_okq (⟨"ChoristerKeysModel", "postIn", "(II)I"⟩, 27) := ⟨⟨by decide +kernel, by decide +kernel⟩, List.mem_of_getElem? (i := 681) (by decide +kernel), List.mem_of_getElem? (i := 937) (by decide +kernel), List.mem_of_getElem? (i := 938) (by decide +kernel)⟩
theorem lw_p49 : lw_okq (⟨"ChoristerKeysModel", "sings", "(II)Z"⟩, 27) := ⟨⟨by decide +kernel, by decide +kernel⟩, List.mem_of_getElem? (i := 681) (by decide +kernel), List.mem_of_getElem? (i := 945) (by decide +kernel), List.mem_of_getElem? (i := 946) (by decide +kernel)⟩
theorem lw_p50 : lw_okq (⟨"ChoristerKeysModel", "whoCan", "()I"⟩, 27) := ⟨⟨by decide +kernel, by decide +kernel⟩, List.mem_of_getElem? (i := 681) (by decide +kernel), List.mem_of_getElem? (i := 975) (by decide +kernel), List.mem_of_getElem? (i := 976) (by decide +kernel)⟩
def lw_privs_4 : List (MethodName × Nat) := [(⟨"ChoristerKeysModel", "postIn", "(II)I"⟩, 27), (⟨"ChoristerKeysModel", "sings", "(II)Z"⟩, 27), (⟨"ChoristerKeysModel", "whoCan", "()I"⟩, 27)]
theorem lw_r4 : ∀ q ∈ lw_privs_4, lw_okq q := List.forall_mem_cons.mpr ⟨lw_p48, List.forall_mem_cons.mpr ⟨lw_p49, List.forall_mem_cons.mpr ⟨lw_p50, fun _ h => absurd h List.not_mem_nil⟩⟩⟩
def lw_privs : List (MethodName × Nat) := lw_privs_1 ++ (lw_privs_2 ++ (lw_privs_3 ++ (lw_privs_4)))
def lw_tbl : List Cond := k2_sels lw_privs ++ tables_1
theorem lw_privs_ok : ∀ q ∈ lw_privs, lw_okq q := by
  show ∀ q ∈ lw_privs_1 ++ (lw_privs_2 ++ (lw_privs_3 ++ (lw_privs_4))), lw_okq q
  exact List.forall_mem_append.mpr ⟨lw_r1, List.forall_mem_append.mpr ⟨lw_r2, List.forall_mem_append.mpr ⟨lw_r3, lw_r4⟩⟩⟩
end
section
-- names, fields, methods: out of the claim's printed NAMES text
def RL : String := "ChoristerKeysLaw"
def RX0 : String := "ChoristerKeys$Chances"
def TX0 : u_T := fun k => match k with
  | 0 => ("ChoristerKeys$Chances", "weights", "[I", true)
  | 1 => ("ChoristerKeys$Chances", "upper", "I", false)
  | _ => ("ChoristerKeys$Chances", "lower", "I", false)
def tyX0 : Nat → FieldType := fun k => match k with
  | 0 => .array .int
  | 1 => .int
  | _ => .int
theorem nmX0 : ∀ a, a < 3 → ∀ b, b < 3 → a ≠ b → (TX0 a).2.1 ≠ (TX0 b).2.1 := by decide +kernel
theorem tyX0_ok : ∀ k, k < 3 → parseFieldDescriptor (TX0 k).2.2.1 = some (tyX0 k) := by decide +kernel
abbrev cX0_init : ByteArray := prog_2_method_1_code
def yX0_init : MethodName := ⟨RX0, "<init>", "()V"⟩
abbrev cX0_reckon : ByteArray := prog_2_method_2_code
def yX0_reckon : MethodName := ⟨RX0, "reckon", "(III)V"⟩
abbrev cX0_weighNumbers : ByteArray := prog_2_method_3_code
def yX0_weighNumbers : MethodName := ⟨RX0, "weighNumbers", "(II)V"⟩
abbrev cX0_commonDivisor : ByteArray := prog_2_method_4_code
def yX0_commonDivisor : MethodName := ⟨RX0, "commonDivisor", "(II)I"⟩
def RX1 : String := "ChoristerKeys$Choir"
def TX1 : u_T := fun k => match k with
  | 0 => ("ChoristerKeys$Choir", "city", "LChoristerKeys$City;", true)
  | _ => ("ChoristerKeys$Choir", "scene", "LChoristerKeys$Scene;", true)
def tyX1 : Nat → FieldType := fun k => match k with
  | 0 => .object "ChoristerKeys$City"
  | _ => .object "ChoristerKeys$Scene"
theorem nmX1 : ∀ a, a < 2 → ∀ b, b < 2 → a ≠ b → (TX1 a).2.1 ≠ (TX1 b).2.1 := by decide +kernel
theorem tyX1_ok : ∀ k, k < 2 → parseFieldDescriptor (TX1 k).2.2.1 = some (tyX1 k) := by decide +kernel
abbrev cX1_init : ByteArray := prog_3_method_1_code
def yX1_init : MethodName := ⟨RX1, "<init>", "(LChoristerKeys$City;LChoristerKeys$Scene;)V"⟩
abbrev cX1_isBroken : ByteArray := prog_3_method_2_code
def yX1_isBroken : MethodName := ⟨RX1, "isBroken", "(II)Z"⟩
abbrev cX1_unbroken : ByteArray := prog_3_method_3_code
def yX1_unbroken : MethodName := ⟨RX1, "unbroken", "()I"⟩
abbrev cX1_lowest : ByteArray := prog_3_method_4_code
def yX1_lowest : MethodName := ⟨RX1, "lowest", "(II)I"⟩
abbrev cX1_highest : ByteArray := prog_3_method_5_code
def yX1_highest : MethodName := ⟨RX1, "highest", "(II)I"⟩
abbrev cX1_sings : ByteArray := prog_3_method_6_code
def yX1_sings : MethodName := ⟨RX1, "sings", "(II)Z"⟩
abbrev cX1_keys : ByteArray := prog_3_method_7_code
def yX1_keys : MethodName := ⟨RX1, "keys", "(II)I"⟩
abbrev cX1_opens : ByteArray := prog_3_method_8_code
def yX1_opens : MethodName := ⟨RX1, "opens", "(II)Z"⟩
abbrev cX1_openers : ByteArray := prog_3_method_9_code
def yX1_openers : MethodName := ⟨RX1, "openers", "(I)I"⟩
abbrev cX1_atHome : ByteArray := prog_3_method_10_code
def yX1_atHome : MethodName := ⟨RX1, "atHome", "()I"⟩
abbrev cX1_beyond : ByteArray := prog_3_method_11_code
def yX1_beyond : MethodName := ⟨RX1, "beyond", "(II)I"⟩
abbrev cX1_spread : ByteArray := prog_3_method_12_code
def yX1_spread : MethodName := ⟨RX1, "spread", "(II)I"⟩
abbrev cX1_reach : ByteArray := prog_3_method_13_code
def yX1_reach : MethodName := ⟨RX1, "reach", "(II)I"⟩
abbrev cX1_fewestDoors : ByteArray := prog_3_method_14_code
def yX1_fewestDoors : MethodName := ⟨RX1, "fewestDoors", "(II)I"⟩
abbrev cX1_shutOut : ByteArray := prog_3_method_15_code
def yX1_shutOut : MethodName := ⟨RX1, "shutOut", "(I)I"⟩
abbrev cX1_lowestPitchOf : ByteArray := prog_3_method_16_code
def yX1_lowestPitchOf : MethodName := ⟨RX1, "lowestPitchOf", "(I)I"⟩
abbrev cX1_singersOf : ByteArray := prog_3_method_17_code
def yX1_singersOf : MethodName := ⟨RX1, "singersOf", "(I)I"⟩
abbrev cX1_rowsOfThirds : ByteArray := prog_3_method_18_code
def yX1_rowsOfThirds : MethodName := ⟨RX1, "rowsOfThirds", "(II)I"⟩
def RX2 : String := "ChoristerKeys$City"
def TX2 : u_T := fun k => match k with
  | 0 => ("ChoristerKeys$City", "places", "I", false)
  | 1 => ("ChoristerKeys$City", "doors", "I", false)
  | 2 => ("ChoristerKeys$City", "boys", "I", false)
  | 3 => ("ChoristerKeys$City", "step", "I", false)
  | 4 => ("ChoristerKeys$City", "oneSide", "[I", true)
  | 5 => ("ChoristerKeys$City", "otherSide", "[I", true)
  | 6 => ("ChoristerKeys$City", "pitch", "[I", true)
  | 7 => ("ChoristerKeys$City", "low", "[I", true)
  | 8 => ("ChoristerKeys$City", "high", "[I", true)
  | 9 => ("ChoristerKeys$City", "age", "[I", true)
  | 10 => ("ChoristerKeys$City", "breaks", "[I", true)
  | _ => ("ChoristerKeys$City", "home", "[I", true)
def tyX2 : Nat → FieldType := fun k => match k with
  | 0 => .int
  | 1 => .int
  | 2 => .int
  | 3 => .int
  | 4 => .array .int
  | 5 => .array .int
  | 6 => .array .int
  | 7 => .array .int
  | 8 => .array .int
  | 9 => .array .int
  | 10 => .array .int
  | _ => .array .int
theorem nmX2 : ∀ a, a < 12 → ∀ b, b < 12 → a ≠ b → (TX2 a).2.1 ≠ (TX2 b).2.1 := by decide +kernel
theorem tyX2_ok : ∀ k, k < 12 → parseFieldDescriptor (TX2 k).2.2.1 = some (tyX2 k) := by decide +kernel
abbrev cX2_init : ByteArray := prog_4_method_1_code
def yX2_init : MethodName := ⟨RX2, "<init>", "()V"⟩
abbrev cX2_becomesEmpty : ByteArray := prog_4_method_2_code
def yX2_becomesEmpty : MethodName := ⟨RX2, "becomesEmpty", "()V"⟩
abbrev cX2_becomes : ByteArray := prog_4_method_3_code
def yX2_becomes : MethodName := ⟨RX2, "becomes", "(LChoristerKeys$City;)V"⟩
def RX3 : String := "ChoristerKeys$Heard"
def TX3 : u_T := fun k => match k with
  | 0 => ("ChoristerKeys$Heard", "choir", "LChoristerKeys$Choir;", true)
  | 1 => ("ChoristerKeys$Heard", "doors", "[I", true)
  | 2 => ("ChoristerKeys$Heard", "opened", "[I", true)
  | _ => ("ChoristerKeys$Heard", "much", "I", false)
def tyX3 : Nat → FieldType := fun k => match k with
  | 0 => .object "ChoristerKeys$Choir"
  | 1 => .array .int
  | 2 => .array .int
  | _ => .int
theorem nmX3 : ∀ a, a < 4 → ∀ b, b < 4 → a ≠ b → (TX3 a).2.1 ≠ (TX3 b).2.1 := by decide +kernel
theorem tyX3_ok : ∀ k, k < 4 → parseFieldDescriptor (TX3 k).2.2.1 = some (tyX3 k) := by decide +kernel
abbrev cX3_init : ByteArray := prog_5_method_1_code
def yX3_init : MethodName := ⟨RX3, "<init>", "(LChoristerKeys$Choir;)V"⟩
abbrev cX3_add : ByteArray := prog_5_method_2_code
def yX3_add : MethodName := ⟨RX3, "add", "(II)V"⟩
abbrev cX3_suspects : ByteArray := prog_5_method_3_code
def yX3_suspects : MethodName := ⟨RX3, "suspects", "()I"⟩
abbrev cX3_bestDoor : ByteArray := prog_5_method_4_code
def yX3_bestDoor : MethodName := ⟨RX3, "bestDoor", "(I)I"⟩
def RX4 : String := "ChoristerKeys$Keyring"
def TX4 : u_T := fun k => match k with
  | 0 => ("ChoristerKeys$Keyring", "choir", "LChoristerKeys$Choir;", true)
  | _ => ("ChoristerKeys$Keyring", "keysOfSet", "[I", true)
def tyX4 : Nat → FieldType := fun k => match k with
  | 0 => .object "ChoristerKeys$Choir"
  | _ => .array .int
theorem nmX4 : ∀ a, a < 2 → ∀ b, b < 2 → a ≠ b → (TX4 a).2.1 ≠ (TX4 b).2.1 := by decide +kernel
theorem tyX4_ok : ∀ k, k < 2 → parseFieldDescriptor (TX4 k).2.2.1 = some (tyX4 k) := by decide +kernel
abbrev cX4_init : ByteArray := prog_6_method_1_code
def yX4_init : MethodName := ⟨RX4, "<init>", "(LChoristerKeys$Choir;)V"⟩
abbrev cX4_takeKeys : ByteArray := prog_6_method_2_code
def yX4_takeKeys : MethodName := ⟨RX4, "takeKeys", "()V"⟩
abbrev cX4_allBoys : ByteArray := prog_6_method_3_code
def yX4_allBoys : MethodName := ⟨RX4, "allBoys", "()I"⟩
abbrev cX4_allDoors : ByteArray := prog_6_method_4_code
def yX4_allDoors : MethodName := ⟨RX4, "allDoors", "()I"⟩
abbrev cX4_fewestForAll : ByteArray := prog_6_method_5_code
def yX4_fewestForAll : MethodName := ⟨RX4, "fewestForAll", "()I"⟩
abbrev cX4_mostPosts : ByteArray := prog_6_method_6_code
def yX4_mostPosts : MethodName := ⟨RX4, "mostPosts", "()I"⟩
abbrev cX4_postOf : ByteArray := prog_6_method_7_code
def yX4_postOf : MethodName := ⟨RX4, "postOf", "(I)I"⟩
abbrev cX4_lowestPost : ByteArray := prog_6_method_8_code
def yX4_lowestPost : MethodName := ⟨RX4, "lowestPost", "(IIII)I"⟩
abbrev cX4_mostOf : ByteArray := prog_6_method_9_code
def yX4_mostOf : MethodName := ⟨RX4, "mostOf", "(II)I"⟩
def RX5 : String := "ChoristerKeys$Kinds"
def TX5 : u_T := fun k => match k with
  | 0 => ("ChoristerKeys$Kinds", "choir", "LChoristerKeys$Choir;", true)
  | _ => ("ChoristerKeys$Kinds", "traced", "J", false)
def tyX5 : Nat → FieldType := fun k => match k with
  | 0 => .object "ChoristerKeys$Choir"
  | _ => .long
theorem nmX5 : ∀ a, a < 2 → ∀ b, b < 2 → a ≠ b → (TX5 a).2.1 ≠ (TX5 b).2.1 := by decide +kernel
theorem tyX5_ok : ∀ k, k < 2 → parseFieldDescriptor (TX5 k).2.2.1 = some (tyX5 k) := by decide +kernel
abbrev cX5_init : ByteArray := prog_7_method_1_code
def yX5_init : MethodName := ⟨RX5, "<init>", "(LChoristerKeys$Choir;)V"⟩
abbrev cX5_rateAs : ByteArray := prog_7_method_2_code
def yX5_rateAs : MethodName := ⟨RX5, "rateAs", "(II)I"⟩
abbrev cX5_asBoy : ByteArray := prog_7_method_3_code
def yX5_asBoy : MethodName := ⟨RX5, "asBoy", "(I)I"⟩
abbrev cX5_asTreble : ByteArray := prog_7_method_4_code
def yX5_asTreble : MethodName := ⟨RX5, "asTreble", "(I)I"⟩
abbrev cX5_asAlto : ByteArray := prog_7_method_5_code
def yX5_asAlto : MethodName := ⟨RX5, "asAlto", "(I)I"⟩
abbrev cX5_asSoloist : ByteArray := prog_7_method_6_code
def yX5_asSoloist : MethodName := ⟨RX5, "asSoloist", "(I)I"⟩
abbrev cX5_asTwin : ByteArray := prog_7_method_7_code
def yX5_asTwin : MethodName := ⟨RX5, "asTwin", "(I)I"⟩
abbrev cX5_asBass : ByteArray := prog_7_method_8_code
def yX5_asBass : MethodName := ⟨RX5, "asBass", "(I)I"⟩
def RX6 : String := "ChoristerKeys$Past"
def TX6 : u_T := fun k => match k with
  | 0 => ("ChoristerKeys$Past", "scenes", "[LChoristerKeys$Scene;", true)
  | 1 => ("ChoristerKeys$Past", "next", "I", false)
  | _ => ("ChoristerKeys$Past", "known", "I", false)
def tyX6 : Nat → FieldType := fun k => match k with
  | 0 => .array (.object "ChoristerKeys$Scene")
  | 1 => .int
  | _ => .int
theorem nmX6 : ∀ a, a < 3 → ∀ b, b < 3 → a ≠ b → (TX6 a).2.1 ≠ (TX6 b).2.1 := by decide +kernel
theorem tyX6_ok : ∀ k, k < 3 → parseFieldDescriptor (TX6 k).2.2.1 = some (tyX6 k) := by decide +kernel
abbrev cX6_init : ByteArray := prog_8_method_1_code
def yX6_init : MethodName := ⟨RX6, "<init>", "()V"⟩
abbrev cX6_remember : ByteArray := prog_8_method_2_code
def yX6_remember : MethodName := ⟨RX6, "remember", "(LChoristerKeys$Scene;)V"⟩
abbrev cX6_bringBack : ByteArray := prog_8_method_3_code
def yX6_bringBack : MethodName := ⟨RX6, "bringBack", "(LChoristerKeys$Scene;)V"⟩
def RX7 : String := "ChoristerKeys$Reader"
def TX7 : u_T := fun k => match k with
  | 0 => ("ChoristerKeys$Reader", "text", "[I", true)
  | 1 => ("ChoristerKeys$Reader", "length", "I", false)
  | 2 => ("ChoristerKeys$Reader", "at", "I", false)
  | 3 => ("ChoristerKeys$Reader", "start", "I", false)
  | 4 => ("ChoristerKeys$Reader", "token", "I", false)
  | 5 => ("ChoristerKeys$Reader", "value", "I", false)
  | _ => ("ChoristerKeys$Reader", "stepTold", "Z", false)
def tyX7 : Nat → FieldType := fun k => match k with
  | 0 => .array .int
  | 1 => .int
  | 2 => .int
  | 3 => .int
  | 4 => .int
  | 5 => .int
  | _ => .boolean
theorem nmX7 : ∀ a, a < 7 → ∀ b, b < 7 → a ≠ b → (TX7 a).2.1 ≠ (TX7 b).2.1 := by decide +kernel
theorem tyX7_ok : ∀ k, k < 7 → parseFieldDescriptor (TX7 k).2.2.1 = some (tyX7 k) := by decide +kernel
abbrev cX7_init : ByteArray := prog_9_method_1_code
def yX7_init : MethodName := ⟨RX7, "<init>", "()V"⟩
abbrev cX7_readInto : ByteArray := prog_9_method_2_code
def yX7_readInto : MethodName := ⟨RX7, "readInto", "(LChoristerKeys$City;)I"⟩
abbrev cX7_readItem : ByteArray := prog_9_method_3_code
def yX7_readItem : MethodName := ⟨RX7, "readItem", "(LChoristerKeys$City;I)Z"⟩
abbrev cX7_readPlaces : ByteArray := prog_9_method_4_code
def yX7_readPlaces : MethodName := ⟨RX7, "readPlaces", "(LChoristerKeys$City;)Z"⟩
abbrev cX7_readDoor : ByteArray := prog_9_method_5_code
def yX7_readDoor : MethodName := ⟨RX7, "readDoor", "(LChoristerKeys$City;)Z"⟩
abbrev cX7_readBoy : ByteArray := prog_9_method_6_code
def yX7_readBoy : MethodName := ⟨RX7, "readBoy", "(LChoristerKeys$City;)Z"⟩
abbrev cX7_readStep : ByteArray := prog_9_method_7_code
def yX7_readStep : MethodName := ⟨RX7, "readStep", "(LChoristerKeys$City;)Z"⟩
abbrev cX7_readNumber : ByteArray := prog_9_method_8_code
def yX7_readNumber : MethodName := ⟨RX7, "readNumber", "(II)Z"⟩
abbrev cX7_readClose : ByteArray := prog_9_method_9_code
def yX7_readClose : MethodName := ⟨RX7, "readClose", "()Z"⟩
abbrev cX7_readToken : ByteArray := prog_9_method_10_code
def yX7_readToken : MethodName := ⟨RX7, "readToken", "()V"⟩
abbrev cX7_isDigit : ByteArray := prog_9_method_11_code
def yX7_isDigit : MethodName := ⟨RX7, "isDigit", "(I)Z"⟩
abbrev cX7_isSign : ByteArray := prog_9_method_12_code
def yX7_isSign : MethodName := ⟨RX7, "isSign", "(I)Z"⟩
def RX8 : String := "ChoristerKeys$Scene"
def TX8 : u_T := fun k => match k with
  | 0 => ("ChoristerKeys$Scene", "place", "[I", true)
  | 1 => ("ChoristerKeys$Scene", "age", "[I", true)
  | 2 => ("ChoristerKeys$Scene", "cold", "[I", true)
  | 3 => ("ChoristerKeys$Scene", "pitch", "[I", true)
  | 4 => ("ChoristerKeys$Scene", "propped", "I", false)
  | _ => ("ChoristerKeys$Scene", "year", "I", false)
def tyX8 : Nat → FieldType := fun k => match k with
  | 0 => .array .int
  | 1 => .array .int
  | 2 => .array .int
  | 3 => .array .int
  | 4 => .int
  | _ => .int
theorem nmX8 : ∀ a, a < 6 → ∀ b, b < 6 → a ≠ b → (TX8 a).2.1 ≠ (TX8 b).2.1 := by decide +kernel
theorem tyX8_ok : ∀ k, k < 6 → parseFieldDescriptor (TX8 k).2.2.1 = some (tyX8 k) := by decide +kernel
abbrev cX8_init : ByteArray := prog_10_method_1_code
def yX8_init : MethodName := ⟨RX8, "<init>", "()V"⟩
abbrev cX8_beginsIn : ByteArray := prog_10_method_2_code
def yX8_beginsIn : MethodName := ⟨RX8, "beginsIn", "(LChoristerKeys$City;)V"⟩
abbrev cX8_becomes : ByteArray := prog_10_method_3_code
def yX8_becomes : MethodName := ⟨RX8, "becomes", "(LChoristerKeys$Scene;)V"⟩
def RX9 : String := "ChoristerKeys"
def TX9 : u_T := fun k => match k with
  | 0 => ("ChoristerKeys", "reader", "LChoristerKeys$Reader;", true)
  | 1 => ("ChoristerKeys", "told", "LChoristerKeys$City;", true)
  | 2 => ("ChoristerKeys", "draft", "LChoristerKeys$City;", true)
  | 3 => ("ChoristerKeys", "present", "LChoristerKeys$Scene;", true)
  | 4 => ("ChoristerKeys", "past", "LChoristerKeys$Past;", true)
  | 5 => ("ChoristerKeys", "images", "[LChoristerKeys$Scene;", true)
  | 6 => ("ChoristerKeys", "kept", "[Z", true)
  | 7 => ("ChoristerKeys", "choir", "LChoristerKeys$Choir;", true)
  | 8 => ("ChoristerKeys", "keyring", "LChoristerKeys$Keyring;", true)
  | 9 => ("ChoristerKeys", "chances", "LChoristerKeys$Chances;", true)
  | 10 => ("ChoristerKeys", "heard", "LChoristerKeys$Heard;", true)
  | _ => ("ChoristerKeys", "kinds", "LChoristerKeys$Kinds;", true)
def tyX9 : Nat → FieldType := fun k => match k with
  | 0 => .object "ChoristerKeys$Reader"
  | 1 => .object "ChoristerKeys$City"
  | 2 => .object "ChoristerKeys$City"
  | 3 => .object "ChoristerKeys$Scene"
  | 4 => .object "ChoristerKeys$Past"
  | 5 => .array (.object "ChoristerKeys$Scene")
  | 6 => .array .boolean
  | 7 => .object "ChoristerKeys$Choir"
  | 8 => .object "ChoristerKeys$Keyring"
  | 9 => .object "ChoristerKeys$Chances"
  | 10 => .object "ChoristerKeys$Heard"
  | _ => .object "ChoristerKeys$Kinds"
theorem nmX9 : ∀ a, a < 12 → ∀ b, b < 12 → a ≠ b → (TX9 a).2.1 ≠ (TX9 b).2.1 := by decide +kernel
theorem tyX9_ok : ∀ k, k < 12 → parseFieldDescriptor (TX9 k).2.2.1 = some (tyX9 k) := by decide +kernel
abbrev cX9_init : ByteArray := prog_1_method_1_code
def yX9_init : MethodName := ⟨RX9, "<init>", "()V"⟩
abbrev cX9_type : ByteArray := prog_1_method_2_code
def yX9_type : MethodName := ⟨RX9, "type", "(I)I"⟩
abbrev cX9_clear : ByteArray := prog_1_method_3_code
def yX9_clear : MethodName := ⟨RX9, "clear", "()I"⟩
abbrev cX9_city : ByteArray := prog_1_method_4_code
def yX9_city : MethodName := ⟨RX9, "city", "()I"⟩
abbrev cX9_door : ByteArray := prog_1_method_5_code
def yX9_door : MethodName := ⟨RX9, "door", "(II)I"⟩
abbrev cX9_boy : ByteArray := prog_1_method_6_code
def yX9_boy : MethodName := ⟨RX9, "boy", "(II)I"⟩
abbrev cX9_now : ByteArray := prog_1_method_7_code
def yX9_now : MethodName := ⟨RX9, "now", "(I)I"⟩
abbrev cX9_goes : ByteArray := prog_1_method_8_code
def yX9_goes : MethodName := ⟨RX9, "goes", "(II)I"⟩
abbrev cX9_colds : ByteArray := prog_1_method_9_code
def yX9_colds : MethodName := ⟨RX9, "colds", "(II)I"⟩
abbrev cX9_props : ByteArray := prog_1_method_10_code
def yX9_props : MethodName := ⟨RX9, "props", "(II)I"⟩
abbrev cX9_year : ByteArray := prog_1_method_11_code
def yX9_year : MethodName := ⟨RX9, "year", "()I"⟩
abbrev cX9_michaelmas : ByteArray := prog_1_method_12_code
def yX9_michaelmas : MethodName := ⟨RX9, "michaelmas", "()I"⟩
abbrev cX9_undo : ByteArray := prog_1_method_13_code
def yX9_undo : MethodName := ⟨RX9, "undo", "()I"⟩
abbrev cX9_way : ByteArray := prog_1_method_14_code
def yX9_way : MethodName := ⟨RX9, "way", "(II)I"⟩
abbrev cX9_posts : ByteArray := prog_1_method_15_code
def yX9_posts : MethodName := ⟨RX9, "posts", "(I)I"⟩
abbrev cX9_tune : ByteArray := prog_1_method_16_code
def yX9_tune : MethodName := ⟨RX9, "tune", "(I)I"⟩
abbrev cX9_thirds : ByteArray := prog_1_method_17_code
def yX9_thirds : MethodName := ⟨RX9, "thirds", "(II)I"⟩
abbrev cX9_odds : ByteArray := prog_1_method_18_code
def yX9_odds : MethodName := ⟨RX9, "odds", "(III)I"⟩
abbrev cX9_hears : ByteArray := prog_1_method_19_code
def yX9_hears : MethodName := ⟨RX9, "hears", "(II)I"⟩
abbrev cX9_forget : ByteArray := prog_1_method_20_code
def yX9_forget : MethodName := ⟨RX9, "forget", "()I"⟩
abbrev cX9_who : ByteArray := prog_1_method_21_code
def yX9_who : MethodName := ⟨RX9, "who", "()I"⟩
abbrev cX9_ask : ByteArray := prog_1_method_22_code
def yX9_ask : MethodName := ⟨RX9, "ask", "()I"⟩
abbrev cX9_rate : ByteArray := prog_1_method_23_code
def yX9_rate : MethodName := ⟨RX9, "rate", "(II)I"⟩
abbrev cX9_keep : ByteArray := prog_1_method_24_code
def yX9_keep : MethodName := ⟨RX9, "keep", "(I)I"⟩
abbrev cX9_back : ByteArray := prog_1_method_25_code
def yX9_back : MethodName := ⟨RX9, "back", "(I)I"⟩
abbrev cX9_count : ByteArray := prog_1_method_26_code
def yX9_count : MethodName := ⟨RX9, "count", "(I)I"⟩
abbrev cX9_trace : ByteArray := prog_1_method_27_code
def yX9_trace : MethodName := ⟨RX9, "trace", "()J"⟩
abbrev cX9_isDoor : ByteArray := prog_1_method_28_code
def yX9_isDoor : MethodName := ⟨RX9, "isDoor", "(I)Z"⟩
abbrev cX9_isBoy : ByteArray := prog_1_method_29_code
def yX9_isBoy : MethodName := ⟨RX9, "isBoy", "(I)Z"⟩
abbrev cX9_within : ByteArray := prog_1_method_30_code
def yX9_within : MethodName := ⟨RX9, "within", "(III)Z"⟩
def RX10 : String := "ChoristerKeysModel"
def TX10 : u_T := fun k => match k with
  | 0 => ("ChoristerKeysModel", "thrown", "I", false)
  | 1 => ("ChoristerKeysModel", "trace", "J", false)
  | 2 => ("ChoristerKeysModel", "text", "[I", true)
  | 3 => ("ChoristerKeysModel", "typed", "I", false)
  | 4 => ("ChoristerKeysModel", "next", "I", false)
  | 5 => ("ChoristerKeysModel", "token", "I", false)
  | 6 => ("ChoristerKeysModel", "place", "I", false)
  | 7 => ("ChoristerKeysModel", "value", "I", false)
  | 8 => ("ChoristerKeysModel", "fault", "I", false)
  | 9 => ("ChoristerKeysModel", "isStepTold", "Z", false)
  | 10 => ("ChoristerKeysModel", "many", "[I", true)
  | 11 => ("ChoristerKeysModel", "one", "[I", true)
  | 12 => ("ChoristerKeysModel", "other", "[I", true)
  | 13 => ("ChoristerKeysModel", "pitchTold", "[I", true)
  | 14 => ("ChoristerKeysModel", "low", "[I", true)
  | 15 => ("ChoristerKeysModel", "high", "[I", true)
  | 16 => ("ChoristerKeysModel", "ageTold", "[I", true)
  | 17 => ("ChoristerKeysModel", "breaks", "[I", true)
  | 18 => ("ChoristerKeysModel", "home", "[I", true)
  | 19 => ("ChoristerKeysModel", "s", "[I", true)
  | 20 => ("ChoristerKeysModel", "kept", "[I", true)
  | 21 => ("ChoristerKeysModel", "isKept", "[Z", true)
  | 22 => ("ChoristerKeysModel", "undos", "[I", true)
  | 23 => ("ChoristerKeysModel", "undoMany", "I", false)
  | 24 => ("ChoristerKeysModel", "heardAt", "[I", true)
  | 25 => ("ChoristerKeysModel", "heard", "[I", true)
  | _ => ("ChoristerKeysModel", "heardMany", "I", false)
def tyX10 : Nat → FieldType := fun k => match k with
  | 0 => .int
  | 1 => .long
  | 2 => .array .int
  | 3 => .int
  | 4 => .int
  | 5 => .int
  | 6 => .int
  | 7 => .int
  | 8 => .int
  | 9 => .boolean
  | 10 => .array .int
  | 11 => .array .int
  | 12 => .array .int
  | 13 => .array .int
  | 14 => .array .int
  | 15 => .array .int
  | 16 => .array .int
  | 17 => .array .int
  | 18 => .array .int
  | 19 => .array .int
  | 20 => .array .int
  | 21 => .array .boolean
  | 22 => .array .int
  | 23 => .int
  | 24 => .array .int
  | 25 => .array .int
  | _ => .int
theorem nmX10 : ∀ a, a < 27 → ∀ b, b < 27 → a ≠ b → (TX10 a).2.1 ≠ (TX10 b).2.1 := by decide +kernel
theorem tyX10_ok : ∀ k, k < 27 → parseFieldDescriptor (TX10 k).2.2.1 = some (tyX10 k) := by decide +kernel
abbrev cX10_init : ByteArray := prog_12_method_1_code
def yX10_init : MethodName := ⟨RX10, "<init>", "()V"⟩
abbrev cX10_in : ByteArray := prog_12_method_3_code
def yX10_in : MethodName := ⟨RX10, "in", "(III)Z"⟩
abbrev cX10_has : ByteArray := prog_12_method_4_code
def yX10_has : MethodName := ⟨RX10, "has", "(II)Z"⟩
abbrev cX10_ones : ByteArray := prog_12_method_5_code
def yX10_ones : MethodName := ⟨RX10, "ones", "(I)I"⟩
abbrev cX10_type : ByteArray := prog_12_method_6_code
def yX10_type : MethodName := ⟨RX10, "type", "(I)I"⟩
abbrev cX10_clear : ByteArray := prog_12_method_7_code
def yX10_clear : MethodName := ⟨RX10, "clear", "()I"⟩
abbrev cX10_letterAt : ByteArray := prog_12_method_8_code
def yX10_letterAt : MethodName := ⟨RX10, "letterAt", "(I)I"⟩
abbrev cX10_isLetter : ByteArray := prog_12_method_9_code
def yX10_isLetter : MethodName := ⟨RX10, "isLetter", "(I)Z"⟩
abbrev cX10_advances : ByteArray := prog_12_method_10_code
def yX10_advances : MethodName := ⟨RX10, "advances", "()V"⟩
abbrev cX10_isWell : ByteArray := prog_12_method_11_code
def yX10_isWell : MethodName := ⟨RX10, "isWell", "()Z"⟩
abbrev cX10_takes : ByteArray := prog_12_method_12_code
def yX10_takes : MethodName := ⟨RX10, "takes", "(Z)I"⟩
abbrev cX10_number : ByteArray := prog_12_method_13_code
def yX10_number : MethodName := ⟨RX10, "number", "(II)I"⟩
abbrev cX10_begins : ByteArray := prog_12_method_14_code
def yX10_begins : MethodName := ⟨RX10, "begins", "()V"⟩
abbrev cX10_mayBegin : ByteArray := prog_12_method_15_code
def yX10_mayBegin : MethodName := ⟨RX10, "mayBegin", "(I)Z"⟩
abbrev cX10_readsItem : ByteArray := prog_12_method_16_code
def yX10_readsItem : MethodName := ⟨RX10, "readsItem", "(I)V"⟩
abbrev cX10_city : ByteArray := prog_12_method_17_code
def yX10_city : MethodName := ⟨RX10, "city", "()I"⟩
abbrev cX10_settles : ByteArray := prog_12_method_18_code
def yX10_settles : MethodName := ⟨RX10, "settles", "()V"⟩
abbrev cX10_isDoor : ByteArray := prog_12_method_19_code
def yX10_isDoor : MethodName := ⟨RX10, "isDoor", "(I)Z"⟩
abbrev cX10_isBoy : ByteArray := prog_12_method_20_code
def yX10_isBoy : MethodName := ⟨RX10, "isBoy", "(I)Z"⟩
abbrev cX10_isPlace : ByteArray := prog_12_method_21_code
def yX10_isPlace : MethodName := ⟨RX10, "isPlace", "(I)Z"⟩
abbrev cX10_lowest : ByteArray := prog_12_method_22_code
def yX10_lowest : MethodName := ⟨RX10, "lowest", "(II)I"⟩
abbrev cX10_highest : ByteArray := prog_12_method_23_code
def yX10_highest : MethodName := ⟨RX10, "highest", "(III)I"⟩
abbrev cX10_sings : ByteArray := prog_12_method_24_code
def yX10_sings : MethodName := ⟨RX10, "sings", "(II)Z"⟩
abbrev cX10_keysIn : ByteArray := prog_12_method_25_code
def yX10_keysIn : MethodName := ⟨RX10, "keysIn", "(II)I"⟩
abbrev cX10_keys : ByteArray := prog_12_method_26_code
def yX10_keys : MethodName := ⟨RX10, "keys", "(I)I"⟩
abbrev cX10_openers : ByteArray := prog_12_method_27_code
def yX10_openers : MethodName := ⟨RX10, "openers", "(I)I"⟩
abbrev cX10_wider : ByteArray := prog_12_method_28_code
def yX10_wider : MethodName := ⟨RX10, "wider", "(II)I"⟩
abbrev cX10_reachBy : ByteArray := prog_12_method_29_code
def yX10_reachBy : MethodName := ⟨RX10, "reachBy", "(II)I"⟩
abbrev cX10_shutOf : ByteArray := prog_12_method_30_code
def yX10_shutOf : MethodName := ⟨RX10, "shutOf", "(I)I"⟩
abbrev cX10_door : ByteArray := prog_12_method_31_code
def yX10_door : MethodName := ⟨RX10, "door", "(II)I"⟩
abbrev cX10_boy : ByteArray := prog_12_method_32_code
def yX10_boy : MethodName := ⟨RX10, "boy", "(II)I"⟩
abbrev cX10_atHome : ByteArray := prog_12_method_33_code
def yX10_atHome : MethodName := ⟨RX10, "atHome", "()I"⟩
abbrev cX10_coverOf : ByteArray := prog_12_method_34_code
def yX10_coverOf : MethodName := ⟨RX10, "coverOf", "()I"⟩
abbrev cX10_now : ByteArray := prog_12_method_35_code
def yX10_now : MethodName := ⟨RX10, "now", "(I)I"⟩
abbrev cX10_notes : ByteArray := prog_12_method_36_code
def yX10_notes : MethodName := ⟨RX10, "notes", "()V"⟩
abbrev cX10_goes : ByteArray := prog_12_method_37_code
def yX10_goes : MethodName := ⟨RX10, "goes", "(II)I"⟩
abbrev cX10_colds : ByteArray := prog_12_method_38_code
def yX10_colds : MethodName := ⟨RX10, "colds", "(II)I"⟩
abbrev cX10_props : ByteArray := prog_12_method_39_code
def yX10_props : MethodName := ⟨RX10, "props", "(II)I"⟩
abbrev cX10_year : ByteArray := prog_12_method_40_code
def yX10_year : MethodName := ⟨RX10, "year", "()I"⟩
abbrev cX10_michaelmas : ByteArray := prog_12_method_41_code
def yX10_michaelmas : MethodName := ⟨RX10, "michaelmas", "()I"⟩
abbrev cX10_undo : ByteArray := prog_12_method_42_code
def yX10_undo : MethodName := ⟨RX10, "undo", "()I"⟩
abbrev cX10_way : ByteArray := prog_12_method_43_code
def yX10_way : MethodName := ⟨RX10, "way", "(II)I"⟩
abbrev cX10_nines : ByteArray := prog_12_method_44_code
def yX10_nines : MethodName := ⟨RX10, "nines", "(I)I"⟩
abbrev cX10_postIn : ByteArray := prog_12_method_45_code
def yX10_postIn : MethodName := ⟨RX10, "postIn", "(II)I"⟩
abbrev cX10_standing : ByteArray := prog_12_method_46_code
def yX10_standing : MethodName := ⟨RX10, "standing", "(I)I"⟩
abbrev cX10_posts : ByteArray := prog_12_method_47_code
def yX10_posts : MethodName := ⟨RX10, "posts", "(I)I"⟩
abbrev cX10_tune : ByteArray := prog_12_method_48_code
def yX10_tune : MethodName := ⟨RX10, "tune", "(I)I"⟩
abbrev cX10_thirds : ByteArray := prog_12_method_49_code
def yX10_thirds : MethodName := ⟨RX10, "thirds", "(II)I"⟩
abbrev cX10_power : ByteArray := prog_12_method_50_code
def yX10_power : MethodName := ⟨RX10, "power", "(II)I"⟩
abbrev cX10_gcd : ByteArray := prog_12_method_51_code
def yX10_gcd : MethodName := ⟨RX10, "gcd", "(II)I"⟩
abbrev cX10_odds : ByteArray := prog_12_method_52_code
def yX10_odds : MethodName := ⟨RX10, "odds", "(III)I"⟩
abbrev cX10_hears : ByteArray := prog_12_method_53_code
def yX10_hears : MethodName := ⟨RX10, "hears", "(II)I"⟩
abbrev cX10_forget : ByteArray := prog_12_method_54_code
def yX10_forget : MethodName := ⟨RX10, "forget", "()I"⟩
abbrev cX10_whoCan : ByteArray := prog_12_method_55_code
def yX10_whoCan : MethodName := ⟨RX10, "whoCan", "()I"⟩
abbrev cX10_who : ByteArray := prog_12_method_56_code
def yX10_who : MethodName := ⟨RX10, "who", "()I"⟩
abbrev cX10_ask : ByteArray := prog_12_method_57_code
def yX10_ask : MethodName := ⟨RX10, "ask", "()I"⟩
abbrev cX10_rate : ByteArray := prog_12_method_58_code
def yX10_rate : MethodName := ⟨RX10, "rate", "(II)I"⟩
abbrev cX10_keep : ByteArray := prog_12_method_59_code
def yX10_keep : MethodName := ⟨RX10, "keep", "(I)I"⟩
abbrev cX10_back : ByteArray := prog_12_method_60_code
def yX10_back : MethodName := ⟨RX10, "back", "(I)I"⟩
abbrev cX10_count : ByteArray := prog_12_method_61_code
def yX10_count : MethodName := ⟨RX10, "count", "(I)I"⟩
abbrev cX10_trace : ByteArray := prog_12_method_62_code
def yX10_trace : MethodName := ⟨RX10, "trace", "()J"⟩
def RJ6 : String := "java/lang/Integer"
abbrev cJ6_bitCount_0f7a4 : ByteArray := prog_13_method_49_code
def yJ6_bitCount_0f7a4 : MethodName := ⟨RJ6, "bitCount", "(I)I"⟩
def RJ9 : String := "java/lang/Math"
abbrev cJ9_abs_0f7a4 : ByteArray := prog_14_method_59_code
def yJ9_abs_0f7a4 : MethodName := ⟨RJ9, "abs", "(I)I"⟩
abbrev cJ9_max_7cf53 : ByteArray := prog_14_method_65_code
def yJ9_max_7cf53 : MethodName := ⟨RJ9, "max", "(II)I"⟩
abbrev cJ9_min_7cf53 : ByteArray := prog_14_method_69_code
def yJ9_min_7cf53 : MethodName := ⟨RJ9, "min", "(II)I"⟩
abbrev cL_law : ByteArray := code
def yL_law : MethodName := ⟨RL, "law", "([I)Z"⟩
abbrev vwCl : List vw_C := [(RX0, TX0, 3), (RX1, TX1, 2), (RX2, TX2, 12), (RX3, TX3, 4), (RX4, TX4, 2), (RX5, TX5, 2), (RX6, TX6, 3), (RX7, TX7, 7), (RX8, TX8, 6), (RX9, TX9, 12), (RX10, TX10, 27)]
end
section
-- ONE WORLD: every cell of the class's and of the reference's object, one behind another from b on; what they hold is a pair of functions
def TB : List Cond := lw_tbl.filter goodWord
theorem TBm {w : Cond} (i : Nat) (h : lw_tbl[i]? = some w) (hg : goodWord w = true) : w ∈ TB := List.mem_filter.mpr ⟨List.mem_of_getElem? h, hg⟩
theorem TBg {w : Cond} (h : w ∈ TB) : (w.onTables && w.keeps) = true ∨ ∃ ty, w = .arrayClass ty := good_of_word (List.mem_filter.mp h).2
def WS (y : MethodName) (cc : ByteArray) (nL : Nat) (ret : Option FieldType) : List Cond := .code y cc nL ret :: TB
theorem WSg {y : MethodName} {cc : ByteArray} {nL : Nat} {ret : Option FieldType} (h : Cond.code y cc nL ret ∈ TB) : GoodIn TB (WS y cc nL ret) := by
  intro w hw
  rcases List.mem_cons.mp hw with rfl | hw
  · exact ⟨h, TBg h⟩
  · exact ⟨hw, TBg hw⟩
def isNest : Cond → Bool
  | .methodLinkNest _ _ _ _ => true
  | _ => false
def NT : List Cond := lw_tbl.filter isNest
theorem NTm {w : Cond} (i : Nat) (h : lw_tbl[i]? = some w) (hg : isNest w = true) : w ∈ NT := List.mem_filter.mpr ⟨List.mem_of_getElem? h, hg⟩
theorem NTw {s U : State} (hW : s.WarmedH U.vm) (h : ∀ w ∈ NT, va_Nw w s) : ∀ w ∈ NT, va_Nw w U := by
  intro w hw
  have h1 := h w hw
  have h2 := (List.mem_filter.mp hw).2
  cases w <;> first | exact va_Nw.warmM hW h1 | (simp [isNest] at h2; done)
theorem NTb {U V : State} (e : U.vm = V.vm) (h : ∀ w ∈ NT, va_Nw w U) : ∀ w ∈ NT, va_Nw w V := by
  intro w hw
  have h1 := h w hw
  have h2 := (List.mem_filter.mp hw).2
  cases w <;> first | exact va_Nw.same rfl e h1 | (simp [isNest] at h2; done)
theorem uX0 : ∀ w ∈ u_ws RX0 TX0 3, w ∈ TB := by decide +kernel
theorem uX1 : ∀ w ∈ u_ws RX1 TX1 2, w ∈ TB := by decide +kernel
theorem uX2 : ∀ w ∈ u_ws RX2 TX2 12, w ∈ TB := by decide +kernel
theorem uX3 : ∀ w ∈ u_ws RX3 TX3 4, w ∈ TB := by decide +kernel
theorem uX4 : ∀ w ∈ u_ws RX4 TX4 2, w ∈ TB := by decide +kernel
theorem uX5 : ∀ w ∈ u_ws RX5 TX5 2, w ∈ TB := by decide +kernel
theorem uX6 : ∀ w ∈ u_ws RX6 TX6 3, w ∈ TB := by decide +kernel
theorem uX7 : ∀ w ∈ u_ws RX7 TX7 7, w ∈ TB := by decide +kernel
theorem uX8 : ∀ w ∈ u_ws RX8 TX8 6, w ∈ TB := by decide +kernel
theorem uX9 : ∀ w ∈ u_ws RX9 TX9 12, w ∈ TB := by decide +kernel
theorem uX10 : ∀ w ∈ u_ws RX10 TX10 27, w ∈ TB := by decide +kernel

abbrev St : Type := (Nat → Nat → Int32) × (Nat → Int64)
def sI (S : St) (k i : Nat) (v : Int32) : St := (fun a j => if a = k ∧ j = i then v else S.1 a j, S.2)
def sL (S : St) (k : Nat) (v : Int64) : St := (S.1, fun a => if a = k then v else S.2 a)
def shT : List (Nat × Nat × List Nat) := [(0, 9, [3, 5, 14, 23, 28, 80, 91, 92, 93, 95, 97, 100]), (0, 7, [4, 0, 0, 0, 0, 0, 0]), (1, 150, []), (0, 2, [0, 0, 0, 0, 6, 7, 8, 9, 10, 11, 12, 13]), (1, 8, []), (1, 8, []), (1, 8, []), (1, 5, []), (1, 5, []), (1, 5, []), (1, 5, []), (1, 5, []), (0, 2, [0, 0, 0, 0, 15, 16, 17, 18, 19, 20, 21, 22]), (1, 8, []), (1, 8, []), (1, 8, []), (1, 5, []), (1, 5, []), (1, 5, []), (1, 5, []), (1, 5, []), (0, 8, [24, 25, 26, 27, 0, 0]), (1, 5, []), (1, 5, []), (1, 5, []), (1, 8, []), (0, 6, [29, 0, 0]), (3, 10, [28, 33, 38, 43, 48, 53, 58, 63, 68, 73]), (0, 8, [31, 32, 33, 34, 0, 0]), (1, 5, []), (1, 5, []), (1, 5, []), (1, 8, []), (0, 8, [36, 37, 38, 39, 0, 0]), (1, 5, []), (1, 5, []), (1, 5, []), (1, 8, []), (0, 8, [41, 42, 43, 44, 0, 0]), (1, 5, []), (1, 5, []), (1, 5, []), (1, 8, []), (0, 8, [46, 47, 48, 49, 0, 0]), (1, 5, []), (1, 5, []), (1, 5, []), (1, 8, []), (0, 8, [51, 52, 53, 54, 0, 0]), (1, 5, []), (1, 5, []), (1, 5, []), (1, 8, []), (0, 8, [56, 57, 58, 59, 0, 0]), (1, 5, []), (1, 5, []), (1, 5, []), (1, 8, []), (0, 8, [61, 62, 63, 64, 0, 0]), (1, 5, []), (1, 5, []), (1, 5, []), (1, 8, []), (0, 8, [66, 67, 68, 69, 0, 0]), (1, 5, []), (1, 5, []), (1, 5, []), (1, 8, []), (0, 8, [71, 72, 73, 74, 0, 0]), (1, 5, []), (1, 5, []), (1, 5, []), (1, 8, []), (0, 8, [76, 77, 78, 79, 0, 0]), (1, 5, []), (1, 5, []), (1, 5, []), (1, 8, []), (3, 2, [79, 84]), (0, 8, [82, 83, 84, 85, 0, 0]), (1, 5, []), (1, 5, []), (1, 5, []), (1, 8, []), (0, 8, [87, 88, 89, 90, 0, 0]), (1, 5, []), (1, 5, []), (1, 5, []), (1, 8, []), (2, 2, []), (0, 1, [5, 23]), (0, 4, [92, 94]), (1, 32, []), (0, 0, [96, 0, 0]), (1, 6, []), (0, 3, [92, 98, 99, 0]), (1, 6, []), (1, 6, []), (0, 5, [92, 1]), (0, 10, [0, 1, 102, 0, 0, 0, 0, 0, 0, 0, 103, 104, 105, 106, 107, 108, 109, 110, 111, 112, 113, 114, 115, 0, 116, 117, 0]), (1, 150, []), (1, 8, []), (1, 16, []), (1, 16, []), (1, 16, []), (1, 10, []), (1, 10, []), (1, 10, []), (1, 10, []), (1, 10, []), (1, 25, []), (1, 50, []), (2, 2, []), (1, 250, []), (1, 6, []), (1, 6, [])]
def sh (k : Nat) : Nat × Nat × List Nat := shT.getD k (9, 0, [])
def NC : Nat := 116
abbrev Cs3 : Type := ClassId × ClassId × ClassId
def tys (cs : Cs3) : List (ClassId × FieldType) := [(cs.1, .int), (cs.2.1, .boolean), (cs.2.2, .object "ChoristerKeys$Scene")]
def fv (b : Nat) (S : St) (k i : Nat) : Nat → Value
  | 0 => .int (S.1 k i)
  | 1 => .long (S.2 k)
  | c + 2 => .ref (b + c)
def fvs (b : Nat) (S : St) (k : Nat) : Nat → List Nat → List Value
  | _, [] => []
  | i, c :: l => fv b S k i c :: fvs b S k (i + 1) l
def cellOf (b : Nat) (cs : Cs3) (S : St) (k : Nat) : va_E :=
  if (sh k).1 = 0 then .inr ((sh k).2.1, fvs b S k 0 (sh k).2.2)
  else if (sh k).1 = 1 then .inl (cs.1, (sh k).2.1, .inl (S.1 k))
  else if (sh k).1 = 2 then .inl (cs.2.1, (sh k).2.1, .inl (S.1 k))
  else .inl (cs.2.2, (sh k).2.1, .inr (.inr (.inr (.inr (fun i => ((sh k).2.2)[i]?.map (fun c => b + c))))))
def Wd (D : va_G) (b : Nat) (cs : Cs3) (S : St) (H : Heap) : Prop := ∀ k, k < NC → va_at D vwCl (b + k, cellOf b cs S k) H
def KK (D : va_G) (cs : Cs3) (U : State) : Prop := va_K D vwCl (tys cs) U ∧ ∀ w ∈ NT, va_Nw w U
def AA (b : Nat) : Nat → Prop := fun q => b ≤ q
def CX (p : Program) (s : State) (m : MethodId) (args : Array Value) (meth : Method) (c : Code) (own : String) (cc : ByteArray) (nL : Nat) (D : va_G) (cs : Cs3) : Prop :=
  p.tables.exec = Jvm.exec ∧ c.code = cc ∧ c.maxLocals = nL ∧ s.vm.findClass own = some m.cls ∧ (∀ w ∈ TB, w.before args s = true) ∧ KK D cs s ∧ meth.locks = false
def QX (D : va_G) (b : Nat) (cs : Cs3) (o : Option Value) (S : St) : Array Value → State → Outcome → State → Prop := fun _ st oc t => oc = .returned o ∧ Wd D b cs S t.heap ∧ va_F (AA b) st t
def PX (D : va_G) (b : Nat) (cs : Cs3) (S : St) (av : List Value) : Array Value → State → Prop := fun v U => v = av.toArray ∧ Wd D b cs S U.heap ∧ KK D cs U
/-- a method's contract: from state S it comes to state S1 with the answer o -/
def Ct (l : Launch) (y : MethodName) (cc : ByteArray) (nL : Nat) (ret : Option FieldType) (rm : Room) (D : va_G) (b : Nat) (cs : Cs3) (av : List Value) (S : St) (o : Option Value) (S1 : St) : Prop :=
  Met l y (WS y cc nL ret) rm (PX D b cs S av) (QX D b cs o S1) 0 0 (AA b)
theorem PXb {D : va_G} {b : Nat} {cs : Cs3} {S : St} {av : List Value} : FrameBlind (PX D b cs S av) :=
  fun a U g mk ⟨q1, q2, q3⟩ => ⟨q1, q2, va_K.moved (u := U) (U := U.calling g mk a) (Vm.Alike.refl U.vm) q3.1, NTb (rfl : U.vm = (U.calling g mk a).vm) q3.2⟩
-- the state's functions
theorem fvs_len (b : Nat) (S : St) (k : Nat) : ∀ (l : List Nat) (i : Nat), (fvs b S k i l).length = l.length
  | [], _ => rfl
  | _ :: l, i => by simp [fvs, fvs_len b S k l (i + 1)]
theorem fvs_get (b : Nat) (S : St) (k : Nat) : ∀ (l : List Nat) (i j : Nat), (fvs b S k i l)[j]? = (l[j]?).map (fv b S k (i + j))
  | [], _, _ => by simp [fvs]
  | c :: l, i, 0 => by simp [fvs]
  | c :: l, i, j + 1 => by
    rw [fvs, List.getElem?_cons_succ, fvs_get b S k l (i + 1) j, List.getElem?_cons_succ, show i + 1 + j = i + (j + 1) by omega]
theorem fv_sI {b : Nat} {S : St} {k k' i i' : Nat} {v : Int32} (h : ¬ (k' = k ∧ i' = i)) (c : Nat) : fv b (sI S k i v) k' i' c = fv b S k' i' c := by
  match c with
  | 0 => simp [fv, sI, h]
  | 1 => simp [fv, sI]
  | c + 2 => rfl
theorem fvs_ext {b : Nat} {S S1 : St} {k : Nat} : ∀ (l : List Nat) (i : Nat), (∀ j c, l[j]? = some c → fv b S1 k (i + j) c = fv b S k (i + j) c) → fvs b S1 k i l = fvs b S k i l
  | [], _, _ => rfl
  | c :: l, i, h => by
    simp only [fvs]
    rw [show fv b S1 k i c = fv b S k i c from h 0 c rfl, fvs_ext (b := b) (S := S) (S1 := S1) (k := k) l (i + 1) (fun j d hj => by rw [show i + 1 + j = i + (j + 1) by omega]; exact h (j + 1) d hj)]
theorem fvs_set {b : Nat} {S S1 : St} {k : Nat} {v : Value} : ∀ (l : List Nat) (i f : Nat), (∀ c, l[f]? = some c → fv b S1 k (i + f) c = v) → (∀ j c, j ≠ f → l[j]? = some c → fv b S1 k (i + j) c = fv b S k (i + j) c) → (fvs b S k i l).set f v = fvs b S1 k i l
  | [], _, _, _, _ => by simp [fvs]
  | c :: l, i, 0, h, ho => by
    simp only [fvs, List.set_cons_zero]
    rw [show fv b S1 k i c = v from h c rfl, fvs_ext (b := b) (S := S) (S1 := S1) (k := k) l (i + 1) (fun j d hj => by rw [show i + 1 + j = i + (j + 1) by omega]; exact ho (j + 1) d (by omega) hj)]
  | c :: l, i, f + 1, h, ho => by
    simp only [fvs, List.set_cons_succ]
    rw [show fv b S1 k i c = fv b S k i c from ho 0 c (by omega) rfl, fvs_set (b := b) (S := S) (S1 := S1) (k := k) l (i + 1) f (fun d hd => by rw [show i + 1 + f = i + (f + 1) by omega]; exact h d hd) (fun j d hj hd => by rw [show i + 1 + j = i + (j + 1) by omega]; exact ho (j + 1) d (by omega) hd)]
theorem cell_oth {b : Nat} {cs : Cs3} {S S1 : St} {k : Nat} (h1 : ∀ i, S1.1 k i = S.1 k i) (h2 : S1.2 k = S.2 k) : cellOf b cs S1 k = cellOf b cs S k := by
  have e1 : S1.1 k = S.1 k := funext h1
  have e2 : fvs b S1 k 0 (sh k).2.2 = fvs b S k 0 (sh k).2.2 := fvs_ext _ _ (fun j c _ => by
    match c with
    | 0 => simp [fv, h1]
    | 1 => simp [fv, h2]
    | c + 2 => rfl)
  simp only [cellOf, e1, e2]
theorem cell_obj {b : Nat} {cs : Cs3} {S : St} {k n : Nat} {l : List Nat} (h : sh k = (0, n, l)) : cellOf b cs S k = .inr (n, fvs b S k 0 l) := by simp [cellOf, h]
theorem cell_int {b : Nat} {cs : Cs3} {S : St} {k n : Nat} {l : List Nat} (h : sh k = (1, n, l)) : cellOf b cs S k = .inl (cs.1, n, .inl (S.1 k)) := by simp [cellOf, h]
theorem cell_bool {b : Nat} {cs : Cs3} {S : St} {k n : Nat} {l : List Nat} (h : sh k = (2, n, l)) : cellOf b cs S k = .inl (cs.2.1, n, .inl (S.1 k)) := by simp [cellOf, h]
theorem cell_refs {b : Nat} {cs : Cs3} {S : St} {k n : Nat} {l : List Nat} (h : sh k = (3, n, l)) : cellOf b cs S k = .inl (cs.2.2, n, .inr (.inr (.inr (.inr (fun i => l[i]?.map (fun c => b + c)))))) := by simp [cellOf, h]
/-- a world where one cell was written -/
theorem Wd_set {D : va_G} {b : Nat} {cs : Cs3} {S S1 : St} {H H1 : Heap} {k : Nat} (hW : Wd D b cs S H) (hk : va_at D vwCl (b + k, cellOf b cs S1 k) H1) (ho : ∀ k', k' ≠ k → cellOf b cs S1 k' = cellOf b cs S k') (oq : ∀ q : Nat, q ≠ b + k → H1[q]? = H[q]?) : Wd D b cs S1 H1 := by
  intro k' hk'
  by_cases e : k' = k
  · subst e; exact hk
  · rw [ho k' e]
    exact (hW k' hk').kept (oq _ (by show b + k' ≠ b + k; omega))
section XR
variable {p : Program} {l : Launch} {e : Env} {R : Room} {s : State} {m : MethodId} {args : Array Value} {below : List Frame} {meth : Method} {c : Code} {H H0 : Heap} {locs : List Loc} {cells slots : Nat} {Q : State → Prop}
variable {own : String} {cc : ByteArray} {nL pc : Nat} {ls : Array Slot} {rest : List Value} {D : va_G} {b : Nat} {cs : Cs3} {S S1 : St} {k n index : Nat} {ll : List Nat} {C : String} {T : u_T} {N : Nat}
theorem x_get (hC : CX p s m args meth c own cc nL D cs) (hW : Wd D b cs S H) (k : Nat) (hk : k < NC) (hsh : sh k = (0, n, ll)) (hc : vwCl[n]? = some (C, T, N)) (hin : ∀ w ∈ u_ws C T N, w ∈ TB) (f : Nat) (hf : f < N) (hlink : Cond.fieldLink own index (T f).1 (T f).2.1 (T f).2.2.1 ∈ TB) {d : Nat} (hd : ll[f]? = some d) {v : Value} (hv : fv b S k f d = v) (hdg : decode cc pc = .ok (.getfield index, 3))
    (kk : W p l e R s m args below meth c H locs cells slots Q (F0 m (pc + 3) ls (v :: rest))) : W p l e R s m args below meth c H locs cells slots Q (F0 m pc ls (.ref (b + k) :: rest)) := by
  obtain ⟨hx, hb, hml, hown, hts, hK, hlk⟩ := hC
  have h0 := hW k hk
  rw [cell_obj hsh] at h0
  have hP : va_P D vwCl [(b + k, .inr (n, fvs b S k 0 ll))] H := fun i q hq => by
    match i, hq with
    | 0, hq => cases hq; exact h0
  exact va_get hx hb hts hin hown hK.1 hP 0 rfl hc f hf (hts _ hlink) (fun _ h => h) (by rw [fvs_get, hd, Nat.zero_add]; exact congrArg some hv) hdg kk
theorem x_put (hC : CX p s m args meth c own cc nL D cs) (hW : Wd D b cs S H) (hS0 : va_S (AA b) H0 H locs) (k : Nat) (hk : k < NC) (hsh : sh k = (0, n, ll)) (hc : vwCl[n]? = some (C, T, N)) (hin : ∀ w ∈ u_ws C T N, w ∈ TB) (ty0 : Nat → FieldType) (hty : ∀ k, k < N → parseFieldDescriptor (T k).2.2.1 = some (ty0 k)) (hnm : ∀ a, a < N → ∀ b, b < N → a ≠ b → (T a).2.1 ≠ (T b).2.1) (f : Nat) (hf : f < N) (hlink : Cond.fieldLink own index (T f).1 (T f).2.1 (T f).2.2.1 ∈ TB) (hfin : (T f).2.2.2 = false) {ty : FieldType} {v : Value} (hd : parseFieldDescriptor (T f).2.2.1 = some ty) (hn : narrow ty v = v) (hfit : fits ty v = true) (hset : (fvs b S k 0 ll).set f v = fvs b S1 k 0 ll) (hl : f < ll.length) (ho : ∀ k', k' ≠ k → cellOf b cs S1 k' = cellOf b cs S k')
    (hdg : decode cc pc = .ok (.putfield index, 3)) (kk : ∀ (H1 : Heap) (locs1 : List Loc), Wd D b cs S1 H1 → va_S (AA b) H0 H1 locs1 → W p l e R s m args below meth c H1 locs1 cells slots Q (F0 m (pc + 3) ls rest)) : W p l e R s m args below meth c H locs cells slots Q (F0 m pc ls (v :: .ref (b + k) :: rest)) := by
  obtain ⟨hx, hb, hml, hown, hts, hK, hlk⟩ := hC
  have hap := va_apart (own := own) hts hin ty0 hty hnm hK.1 hc
  have h0 := hW k hk
  rw [cell_obj hsh] at h0
  obtain ⟨r, h1, cell, q1, q2, q3, q4⟩ := h0
  have hr : r = (C, T, N) := Option.some.inj (h1.symm.trans hc)
  subst hr
  obtain ⟨hS, hfc, kC, hkC, hkind⟩ := hK.1.1 n _ hc
  obtain ⟨cf, kf, fi, fl, hi, hsl⟩ := hS f hf
  have hlay := hts _ (hin _ (u_in_lay hf))
  unfold u_lay at hlay
  rw [if_neg (by rw [hfin]; decide)] at hlay
  have hst := (u_facts hfc hkC (u_lays hts hin hf) hi).1
  have h6 := u_store hfc hkC hkind hlay hi hd hn hfit
  refine W.putK hx hb (f := fl) ⟨hown, hts _ hlink, ⟨_, _, _, hi⟩, hst⟩ (by rw [q2]; exact h6) q1 q3 (by rw [hsl]; exact k2_hasslot (q4 f hf)) rfl rfl hdg fun H' e1 e2 e3 => ?_
  rw [hsl] at e1 ⊢
  refine kk H' _ (Wd_set hW ?_ ho e3) (hS0.put e2 e3 (Nat.le_add_right b k))
  rw [cell_obj hsh, ← hset]
  exact ⟨_, hc, t_OB.to (V := updV (vp_V (fvs b S k 0 ll)) f v) ⟨_, e1, q2, q3, t_set q4 hap hf v⟩ (fun j _ => vp_updV_set (by rw [fvs_len]; exact hl) v j)⟩
/-- an int field -/
theorem x_puti (hC : CX p s m args meth c own cc nL D cs) (hW : Wd D b cs S H) (hS0 : va_S (AA b) H0 H locs) (k : Nat) (hk : k < NC) (hsh : sh k = (0, n, ll)) (hc : vwCl[n]? = some (C, T, N)) (hin : ∀ w ∈ u_ws C T N, w ∈ TB) (ty0 : Nat → FieldType) (hty : ∀ k, k < N → parseFieldDescriptor (T k).2.2.1 = some (ty0 k)) (hnm : ∀ a, a < N → ∀ b, b < N → a ≠ b → (T a).2.1 ≠ (T b).2.1) (f : Nat) (hf : f < N) (hlink : Cond.fieldLink own index (T f).1 (T f).2.1 (T f).2.2.1 ∈ TB) (hfin : (T f).2.2.2 = false) {ty : FieldType} {v : Int32} (hd : parseFieldDescriptor (T f).2.2.1 = some ty) (hn : narrow ty (.int v) = .int v) (hfit : fits ty (.int v) = true) (h0 : ll[f]? = some 0)
    (hdg : decode cc pc = .ok (.putfield index, 3)) (kk : ∀ (H1 : Heap) (locs1 : List Loc), Wd D b cs (sI S k f v) H1 → va_S (AA b) H0 H1 locs1 → W p l e R s m args below meth c H1 locs1 cells slots Q (F0 m (pc + 3) ls rest)) : W p l e R s m args below meth c H locs cells slots Q (F0 m pc ls (.int v :: .ref (b + k) :: rest)) := by
  refine x_put (S1 := sI S k f v) hC hW hS0 k hk hsh hc hin ty0 hty hnm f hf hlink hfin hd hn hfit ?_ (List.getElem?_eq_some_iff.mp h0).1 ?_ hdg kk
  · refine fvs_set ll 0 f (fun d hd => ?_) (fun j d hj hd => ?_)
    · rw [h0] at hd; cases hd; simp [fv, sI]
    · rw [Nat.zero_add]; exact fv_sI (fun h => hj h.2) d
  · exact fun k' hk' => cell_oth (fun i => by simp [sI, hk']) rfl
/-- a long field, the only one of its cell -/
theorem x_putl (hC : CX p s m args meth c own cc nL D cs) (hW : Wd D b cs S H) (hS0 : va_S (AA b) H0 H locs) (k : Nat) (hk : k < NC) (hsh : sh k = (0, n, ll)) (hc : vwCl[n]? = some (C, T, N)) (hin : ∀ w ∈ u_ws C T N, w ∈ TB) (ty0 : Nat → FieldType) (hty : ∀ k, k < N → parseFieldDescriptor (T k).2.2.1 = some (ty0 k)) (hnm : ∀ a, a < N → ∀ b, b < N → a ≠ b → (T a).2.1 ≠ (T b).2.1) (f : Nat) (hf : f < N) (hlink : Cond.fieldLink own index (T f).1 (T f).2.1 (T f).2.2.1 ∈ TB) (hfin : (T f).2.2.2 = false) {v : Int64} (hd : parseFieldDescriptor (T f).2.2.1 = some .long) (h0 : ll[f]? = some 1) (h1 : ∀ j, j ≠ f → ll[j]? ≠ some 1)
    (hdg : decode cc pc = .ok (.putfield index, 3)) (kk : ∀ (H1 : Heap) (locs1 : List Loc), Wd D b cs (sL S k v) H1 → va_S (AA b) H0 H1 locs1 → W p l e R s m args below meth c H1 locs1 cells slots Q (F0 m (pc + 3) ls rest)) : W p l e R s m args below meth c H locs cells slots Q (F0 m pc ls (.long v :: .ref (b + k) :: rest)) := by
  refine x_put (S1 := sL S k v) hC hW hS0 k hk hsh hc hin ty0 hty hnm f hf hlink hfin hd rfl rfl ?_ (List.getElem?_eq_some_iff.mp h0).1 ?_ hdg kk
  · refine fvs_set ll 0 f (fun d hd => ?_) (fun j d hj hd => ?_)
    · rw [h0] at hd; cases hd; simp [fv, sL]
    · match d, hd with
      | 0, _ => rfl
      | 1, hd => exact absurd hd (h1 j hj)
      | d + 2, _ => rfl
  · exact fun k' hk' => cell_oth (fun i => rfl) (by simp [sL, hk'])
theorem x_iald (hC : CX p s m args meth c own cc nL D cs) (hW : Wd D b cs S H) (k : Nat) (hk : k < NC) {n : Nat} (hsh : sh k = (1, n, [])) {i : Int32} (hin : vp_in i n) (hdg : decode cc pc = .ok (.iaload, 1))
    (kk : W p l e R s m args below meth c H locs cells slots Q (F0 m (pc + 1) ls (.int (S.1 k i.toNatClampNeg) :: rest))) : W p l e R s m args below meth c H locs cells slots Q (F0 m pc ls (.int i :: .ref (b + k) :: rest)) := by
  obtain ⟨hx, hb, hml, hown, hts, hK, hlk⟩ := hC
  have h0 := hW k hk
  rw [cell_int hsh] at h0
  have hlt : i.toNatClampNeg < n := Nat.not_le.mp fun q => hin (Or.inr q)
  exact W.iald (v := .int (S.1 k i.toNatClampNeg)) hx hb h0 ((hK.1.2 0 _ rfl).1 n (fun j => .int (S.1 k j))) (fun q => by cases q) (by show ¬ (i < 0 ∨ (arrV _ _ _).slots.size ≤ _); rw [arrV_size]; exact hin) (by show (arrV _ _ _).slots[_]? = _; rw [arrV_read _ _ hlt]) rfl rfl hdg kk
theorem x_zald (hC : CX p s m args meth c own cc nL D cs) (hW : Wd D b cs S H) (k : Nat) (hk : k < NC) {n : Nat} (hsh : sh k = (2, n, [])) {i : Int32} (hin : vp_in i n) (hdg : decode cc pc = .ok (.baload, 1))
    (kk : W p l e R s m args below meth c H locs cells slots Q (F0 m (pc + 1) ls (.int (S.1 k i.toNatClampNeg) :: rest))) : W p l e R s m args below meth c H locs cells slots Q (F0 m pc ls (.int i :: .ref (b + k) :: rest)) := by
  obtain ⟨hx, hb, hml, hown, hts, hK, hlk⟩ := hC
  have h0 := hW k hk
  rw [cell_bool hsh] at h0
  have hP : va_P D vwCl [(b + k, .inl (cs.2.1, n, .inl (S.1 k)))] H := fun i q hq => by
    match i, hq with
    | 0, hq => cases hq; exact h0
  exact va_zald hx hb hK.1 hP 0 1 rfl rfl hin hdg kk
theorem x_aald (hC : CX p s m args meth c own cc nL D cs) (hW : Wd D b cs S H) (k : Nat) (hk : k < NC) {n : Nat} {ll : List Nat} (hsh : sh k = (3, n, ll)) {i : Int32} (hin : vp_in i n) {j : Nat} (hj : ll[i.toNatClampNeg]? = some j) (hdg : decode cc pc = .ok (.aaload, 1))
    (kk : W p l e R s m args below meth c H locs cells slots Q (F0 m (pc + 1) ls (.ref (b + j) :: rest))) : W p l e R s m args below meth c H locs cells slots Q (F0 m pc ls (.int i :: .ref (b + k) :: rest)) := by
  obtain ⟨hx, hb, hml, hown, hts, hK, hlk⟩ := hC
  have h0 := hW k hk
  rw [cell_refs hsh] at h0
  have hP : va_P D vwCl [(b + k, .inl (cs.2.2, n, .inr (.inr (.inr (.inr (fun i => ll[i]?.map (fun c => b + c)))))))] H := fun i q hq => by
    match i, hq with
    | 0, hq => cases hq; exact h0
  refine va_aldq hx hb hK.1 hP 0 2 rfl rfl hin hdg ?_
  rw [hj]
  exact kk
theorem x_iast (hC : CX p s m args meth c own cc nL D cs) (hW : Wd D b cs S H) (hS0 : va_S (AA b) H0 H locs) (k : Nat) (hk : k < NC) {n : Nat} (hsh : sh k = (1, n, [])) {i x : Int32} (hin : vp_in i n) (hdg : decode cc pc = .ok (.iastore, 1))
    (kk : ∀ (H1 : Heap) (locs1 : List Loc), Wd D b cs (sI S k i.toNatClampNeg x) H1 → va_S (AA b) H0 H1 locs1 → W p l e R s m args below meth c H1 locs1 cells slots Q (F0 m (pc + 1) ls rest)) : W p l e R s m args below meth c H locs cells slots Q (F0 m pc ls (.int x :: .int i :: .ref (b + k) :: rest)) := by
  obtain ⟨hx, hb, hml, hown, hts, hK, hlk⟩ := hC
  have h0 := hW k hk
  rw [cell_int hsh] at h0
  refine W.iast hx hb h0 ((hK.1.2 0 _ rfl).1 n (fun j => .int (S.1 k j))) (fun q => by cases q) (by show ¬ (i < 0 ∨ (arrV _ _ _).slots.size ≤ _); rw [arrV_size]; exact hin) rfl rfl hdg fun H1 e z oq => ?_
  refine kk H1 _ (Wd_set hW ?_ (fun k' hk' => cell_oth (fun i => by simp [sI, hk']) rfl) oq) (hS0.put z oq (Nat.le_add_right b k))
  rw [cell_int hsh]
  show H1[b + k]? = some (vp_cell _ _)
  rw [e]
  rw [vp_cell_i, vp_cell_i, arrV_store]
  congr 2
  funext q
  by_cases hq : q = i.toNatClampNeg
  · subst hq; simp [updV, sI]
  · simp [updV, sI, hq]
theorem x_zast (hC : CX p s m args meth c own cc nL D cs) (hW : Wd D b cs S H) (hS0 : va_S (AA b) H0 H locs) (k : Nat) (hk : k < NC) {n : Nat} (hsh : sh k = (2, n, [])) {i x : Int32} (hin : vp_in i n) (hx01 : vp_nar .boolean x = x) (hdg : decode cc pc = .ok (.bastore, 1))
    (kk : ∀ (H1 : Heap) (locs1 : List Loc), Wd D b cs (sI S k i.toNatClampNeg x) H1 → va_S (AA b) H0 H1 locs1 → W p l e R s m args below meth c H1 locs1 cells slots Q (F0 m (pc + 1) ls rest)) : W p l e R s m args below meth c H locs cells slots Q (F0 m pc ls (.int x :: .int i :: .ref (b + k) :: rest)) := by
  obtain ⟨hx, hb, hml, hown, hts, hK, hlk⟩ := hC
  have h0 := hW k hk
  rw [cell_bool hsh] at h0
  refine W.zast hx hb h0 ((hK.1.2 1 _ rfl).1 n (fun j => .int (S.1 k j))) (fun q => by cases q) (by show ¬ (i < 0 ∨ (arrV _ _ _).slots.size ≤ _); rw [arrV_size]; exact hin) rfl rfl hdg fun H1 e z oq => ?_
  refine kk H1 _ (Wd_set hW ?_ (fun k' hk' => cell_oth (fun i => by simp [sI, hk']) rfl) oq) (hS0.put z oq (Nat.le_add_right b k))
  rw [cell_bool hsh]
  show H1[b + k]? = some (vp_cell _ _)
  rw [e]
  rw [vp_cell_i, vp_cell_i, arrV_store]
  congr 2
  funext q
  by_cases hq : q = i.toNatClampNeg
  · subst hq
    simp [updV, sI]
    first | exact congrArg Value.int hx01 | (rw [← hx01]; rfl) | skip
  · simp [updV, sI, hq]
-- calls
def MI (y : MethodName) (cc : ByteArray) (nL : Nat) (ret : Option FieldType) (n : Nat) : Prop := Cond.code y cc nL ret ∈ TB ∧ Cond.initialized y.cls ∈ TB ∧ y.cls ≠ "java/lang/invoke/MethodHandle" ∧ y.cls ≠ "java/lang/invoke/VarHandle" ∧ (parseMethodDescriptor y.desc).map (fun d => d.parameters.length) = some n
theorem x_go {o : Option Value} {a : Array Value} {st0 : List Value} (hr : va_Run p l e R s m args below meth c H locs cells slots 0 0 (F0 m pc ls st0) rest (QX D b cs o S1 a) (AA b)) (hS : va_S (AA b) H0 H locs)
    (kk : ∀ (H1 : Heap) (locs1 : List Loc), Wd D b cs S1 H1 → va_S (AA b) H0 H1 locs1 → W p l e R s m args below meth c H1 locs1 cells slots Q (F0 m (pc + 3) ls (o.toList ++ rest))) : W p l e R s m args below meth c H locs cells slots Q (F0 m pc ls st0) := by
  intro T hT X
  obtain ⟨v, st₀, t, T', L, h0, X', hL, e1, e2, ⟨hv, hw, hz, hk⟩, st⟩ := hr T hT X
  cases hv
  rw [h0] at hz hk
  obtain ⟨t2, a1, b1⟩ := kk T'.heap (locs ++ L) (by rw [e1]; exact hw)
    ⟨Nat.le_trans hS.1 (by rw [e1]; exact hz), fun q h1 h2 => by rw [e1, hk q (Nat.lt_of_lt_of_le h1 hS.1) h2]; exact hS.2.1 q h1 h2, fun q hq => by
      rcases List.mem_append.mp hq with h | h
      · exact hS.2.2 q h
      · exact hL q h⟩ T' rfl X'
  exact ⟨t2, st t2 a1, b1⟩
theorem x_pre (hC : CX p s m args meth c own cc nL D cs) (hW : Wd D b cs S H) {av : List Value} : ∀ U : State, U.heap = H → s.WarmedH U.vm → PX D b cs S av av.toArray U :=
  fun U hU hv => ⟨rfl, by rw [hU]; exact hW, va_K.moved hv.alike hC.2.2.2.2.2.1.1, NTw hv hC.2.2.2.2.2.1.2⟩
theorem x_callV (hC : CX p s m args meth c own cc nL D cs) (hW : Wd D b cs S H) (hS : va_S (AA b) H0 H locs) {y : MethodName} {cy : ByteArray} {ny an : Nat} {ret : Option FieldType} {rm : Room} {As : List Value} {o : Option Value} (k : Nat) (hM : Ct l y cy ny ret rm D b cs (.ref (b + k) :: As) S o S1) (hk : k < NC) (hsh : sh k = (0, n, ll)) (hc : vwCl[n]? = some (y.cls, T, N)) (mi : MI y cy ny ret an) (hinst : Cond.instanceMethod y ∈ TB) (hsel : Cond.selects y.cls y y ∈ TB) (hlink : Cond.methodLink own index y ∈ TB) (hrm : rm.cells = 0 ∧ rm.slots = 0) (hR : rm.frames + 1 ≤ R.frames ∧ 8 + (ny + 11) + rm.locals ≤ R.locals) (hcs : cells ≤ R.cells ∧ slots ≤ R.slots) {st0 : List Value} (hst : st0 = As.reverse ++ .ref (b + k) :: rest) (han : As.length = an) (hls : ls.size = nL) (hroom : (rest.map fun v => v.category).sum ≤ 8) (hdg : decode cc pc = .ok (.invokevirtual index, 3))
    (kk : ∀ (H1 : Heap) (locs1 : List Loc), Wd D b cs S1 H1 → va_S (AA b) H0 H1 locs1 → W p l e R s m args below meth c H1 locs1 cells slots Q (F0 m (pc + 3) ls (o.toList ++ rest))) : W p l e R s m args below meth c H locs cells slots Q (F0 m pc ls st0) := by
  obtain ⟨hx, hb, hml, hown, hts, hK, hlk⟩ := id hC
  obtain ⟨m1, m2, m3, m4, m5⟩ := mi
  have h0 := hW k hk
  rw [cell_obj hsh] at h0
  have hP : va_P D vwCl [(b + k, .inr (n, fvs b S k 0 ll))] H := fun i q hq => by
    match i, hq with
    | 0, hq => cases hq; exact h0
  refine x_go (va_runV (As := As) (rest := rest) ⟨hx, hb, hml, hown, hts⟩ hM (n := an) ⟨callB_of an hts (WSg m1) rfl hrm.1 hrm.2 (hts _ m2) (hts _ hlink) ⟨m3, m4, m5⟩ hR, hts _ hinst, hts _ hsel⟩ ⟨PXb, ?_, x_pre hC hW⟩ rfl han hls hst (lv_room hroom) hdg hcs) hS kk
  obtain ⟨q', h1, cell, g1, g2, g3, -⟩ := h0
  exact ⟨cell, g1, by rw [g3]; rfl, by rw [g2]; exact (hK.1.1 n _ hc).2.1⟩
theorem x_callS (hC : CX p s m args meth c own cc nL D cs) (hW : Wd D b cs S H) (hS : va_S (AA b) H0 H locs) {y : MethodName} {cy : ByteArray} {ny an : Nat} {ret : Option FieldType} {rm : Room} {As : List Value} {o : Option Value} (hM : Ct l y cy ny ret rm D b cs As S o S1) (mi : MI y cy ny ret an) (hst1 : Cond.static y ∈ TB) (hlink : Cond.methodLink own index y ∈ TB) (hrm : rm.cells = 0 ∧ rm.slots = 0) (hR : rm.frames + 1 ≤ R.frames ∧ 8 + (ny + 11) + rm.locals ≤ R.locals) (hcs : cells ≤ R.cells ∧ slots ≤ R.slots) {st0 : List Value} (hst : st0 = As.reverse ++ rest) (han : As.length = an) (hls : ls.size = nL) (hroom : (rest.map fun v => v.category).sum ≤ 8) (hdg : decode cc pc = .ok (.invokestatic index, 3))
    (kk : ∀ (H1 : Heap) (locs1 : List Loc), Wd D b cs S1 H1 → va_S (AA b) H0 H1 locs1 → W p l e R s m args below meth c H1 locs1 cells slots Q (F0 m (pc + 3) ls (o.toList ++ rest))) : W p l e R s m args below meth c H locs cells slots Q (F0 m pc ls st0) := by
  obtain ⟨hx, hb, hml, hown, hts, hK, hlk⟩ := id hC
  obtain ⟨m1, m2, m3, m4, m5⟩ := mi
  exact x_go (va_runS (As := As) (rest := rest) ⟨hx, hb, hml, hown, hts⟩ hM (n := an) ⟨callB_of an hts (WSg m1) rfl hrm.1 hrm.2 (hts _ m2) (hts _ hlink) ⟨m3, m4, m5⟩ hR, hts _ hst1⟩ ⟨PXb, x_pre hC hW⟩ rfl han hls hst (lv_room hroom) hdg hcs) hS kk
theorem x_callSN (hC : CX p s m args meth c own cc nL D cs) (hW : Wd D b cs S H) (hS : va_S (AA b) H0 H locs) {y : MethodName} {host : String} {cy : ByteArray} {ny an : Nat} {ret : Option FieldType} {rm : Room} {As : List Value} {o : Option Value} (hM : Ct l y cy ny ret rm D b cs As S o S1) (mi : MI y cy ny ret an) (hst1 : Cond.static y ∈ TB) (hlink : Cond.methodLinkNest own index y host ∈ NT) (hrm : rm.cells = 0 ∧ rm.slots = 0) (hR : rm.frames + 1 ≤ R.frames ∧ 8 + (ny + 11) + rm.locals ≤ R.locals) (hcs : cells ≤ R.cells ∧ slots ≤ R.slots) {st0 : List Value} (hst : st0 = As.reverse ++ rest) (han : As.length = an) (hls : ls.size = nL) (hroom : (rest.map fun v => v.category).sum ≤ 8) (hdg : decode cc pc = .ok (.invokestatic index, 3))
    (kk : ∀ (H1 : Heap) (locs1 : List Loc), Wd D b cs S1 H1 → va_S (AA b) H0 H1 locs1 → W p l e R s m args below meth c H1 locs1 cells slots Q (F0 m (pc + 3) ls (o.toList ++ rest))) : W p l e R s m args below meth c H locs cells slots Q (F0 m pc ls st0) := by
  obtain ⟨hx, hb, hml, hown, hts, hK, hlk⟩ := id hC
  obtain ⟨m1, m2, m3, m4, m5⟩ := mi
  exact x_go (va_runSN (As := As) (rest := rest) ⟨hx, hb, hml, hown, hts⟩ hM (n := an) ⟨va_cnB an hts (WSg m1) rfl hrm.1 hrm.2 (hK.2 _ hlink) (hts _ m2) ⟨m3, m4, m5⟩ hR, hts _ hst1, trivial⟩ ⟨PXb, x_pre hC hW⟩ rfl han hls hst (lv_room hroom) hdg hcs) hS kk
-- returns
theorem x_q {o : Option Value} (hW : Wd D b cs S H) (hS : va_S (AA b) s.heap H locs) : ∀ t : State, t.heap = H → s.WarmedH t.vm → QX D b cs o S args s (.returned o) t :=
  fun t ht _ => ⟨rfl, by rw [ht]; exact hW, hS.F ht⟩
theorem x_iret (hC : CX p s m args meth c own cc nL D cs) (hr : meth.sig.returnType = some .int) (hW : Wd D b cs S H) (hS : va_S (AA b) s.heap H locs) {v : Int32} (hdg : decode cc pc = .ok (.ireturn, 1)) : W p l e R s m args below meth c H locs cells slots (MQ below (QX D b cs (some (.int v)) S) args s cells slots (AA b)) (F0 m pc ls [.int v]) :=
  W.iret hC.1 hC.2.1 hr (x_q hW hS) hS.2.2 hdg hC.2.2.2.2.2.2
theorem x_zret (hC : CX p s m args meth c own cc nL D cs) (hr : meth.sig.returnType = some .boolean) (hW : Wd D b cs S H) (hS : va_S (AA b) s.heap H locs) {v : Int32} (hv : v = 0 ∨ v = 1) (hdg : decode cc pc = .ok (.ireturn, 1)) : W p l e R s m args below meth c H locs cells slots (MQ below (QX D b cs (some (.int v)) S) args s cells slots (AA b)) (F0 m pc ls [.int v]) :=
  W.zret hC.1 hC.2.1 hr (by rcases hv with rfl | rfl <;> rfl) (x_q hW hS) hS.2.2 hdg hC.2.2.2.2.2.2
theorem x_lret (hC : CX p s m args meth c own cc nL D cs) (hr : meth.sig.returnType = some .long) (hW : Wd D b cs S H) (hS : va_S (AA b) s.heap H locs) {v : Int64} (hdg : decode cc pc = .ok (.lreturn, 1)) : W p l e R s m args below meth c H locs cells slots (MQ below (QX D b cs (some (.long v)) S) args s cells slots (AA b)) (F0 m pc ls [.long v]) :=
  W.lret hC.1 hC.2.1 hr (x_q hW hS) hS.2.2 hdg hC.2.2.2.2.2.2
theorem x_vret (hC : CX p s m args meth c own cc nL D cs) (hr : meth.sig.returnType = none) (hW : Wd D b cs S H) (hS : va_S (AA b) s.heap H locs) (hdg : decode cc pc = .ok (.return_, 1)) : W p l e R s m args below meth c H locs cells slots (MQ below (QX D b cs none S) args s cells slots (AA b)) (F0 m pc ls []) :=
  W.vret hC.1 hC.2.1 hr (x_q hW hS) hS.2.2 hdg hC.2.2.2.2.2.2
end XR
/-- a method's contract out of the walk of its body -/
theorem x_met {l : Launch} {y : MethodName} {cc : ByteArray} {nL : Nat} {ret : Option FieldType} {rm : Room} {D : va_G} {b : Nat} {cs : Cs3} {av : List Value} {S S1 : St} {o : Option Value} (hy : plainName y.cls = true) (hnl : (lg_sl av).length ≤ nL)
    (body : ∀ (p : Program) (e : Env) (s : State) (m : MethodId) (below : List Frame) (meth : Method) (c : Code) (ls : Array Slot), CX p s m av.toArray meth c y.cls cc nL D cs → meth.sig.returnType = ret → Wd D b cs S s.heap → va_S (AA b) s.heap s.heap [] → lv_has ls nL (lv_args 0 av) → W p l e rm s m av.toArray below meth c s.heap [] 0 0 (MQ below (QX D b cs o S1) av.toArray s 0 0 (AA b)) (F0 m 0 ls [])) : Ct l y cc nL ret rm D b cs av S o S1 := by
  refine Met.ofW (cc := cc) (maxL := nL) (ret := ret) hy rfl ?_
  intro p e s m args below meth c s₁ B hml hv
  obtain ⟨rfl, hW, hK⟩ := hv
  have hts := atoms_spec (ws := WS y cc nL ret) B.pre
  rw [lg_entry_eq]
  exact body p e s m below meth c _ ⟨B.exec, B.bytes, hml, findClass_of_methodNamed B.named, fun w hw => hts w (List.mem_cons_of_mem _ hw), hK, B.notSynchronized⟩ B.returns hW va_S.rf (lv_entry av hnl)
theorem xb {α β : Type} {x : Option α} {f : α → Option β} {r : β} (h : x.bind f = some r) : ∃ a, x = some a ∧ f a = some r := by
  cases x with
  | none => cases h
  | some a => exact ⟨a, rfl, h⟩
theorem xt {α : Type} {c : Prop} [Decidable c] {a b r : α} (hc : c) (h : (if c then a else b) = r) : a = r := by rwa [if_pos hc] at h
theorem xf {α : Type} {c : Prop} [Decidable c] {a b r : α} (hc : ¬ c) (h : (if c then a else b) = r) : b = r := by rwa [if_neg hc] at h
theorem xg {α : Type} {c : Prop} [Decidable c] {a : Option α} {r : α} (h : (if c then a else none) = some r) : c ∧ a = some r := by
  by_cases hc : c
  · exact ⟨hc, by rwa [if_pos hc] at h⟩
  · rw [if_neg hc] at h; cases h
end
section
theorem i_vc : Claimed_1_1 ∧ Claimed_1_2 := sorry
end

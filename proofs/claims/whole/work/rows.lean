section
-- ===== PART A: goes FIRST, ahead of the names: the tables' words, and 'selects' of the private methods out of them =====
/-- a private method of a class that the tables say can be made, by its rows of tables_1 -/
def lw_okq (q : MethodName × Nat) : Prop := (q.1.cls ≠ "java/lang/invoke/MethodHandle" ∧ q.1.cls ≠ "java/lang/invoke/VarHandle") ∧ Cond.instantiable q.1.cls q.2 ∈ tables_1 ∧ Cond.privateMethod q.1 ∈ tables_1 ∧ Cond.instanceMethod q.1 ∈ tables_1
theorem lw_p0 : lw_okq (⟨"MeshRouter$RuleReader", "readPrefix", "()Z"⟩, 3) := ⟨⟨by decide +kernel, by decide +kernel⟩, List.mem_of_getElem? (i := 354) (by decide +kernel), List.mem_of_getElem? (i := 464) (by decide +kernel), List.mem_of_getElem? (i := 465) (by decide +kernel)⟩
theorem lw_p1 : lw_okq (⟨"MeshRouter$RuleReader", "readRange", "()Z"⟩, 3) := ⟨⟨by decide +kernel, by decide +kernel⟩, List.mem_of_getElem? (i := 354) (by decide +kernel), List.mem_of_getElem? (i := 477) (by decide +kernel), List.mem_of_getElem? (i := 478) (by decide +kernel)⟩
theorem lw_p2 : lw_okq (⟨"MeshRouter$RuleReader", "readSign", "(C)Z"⟩, 3) := ⟨⟨by decide +kernel, by decide +kernel⟩, List.mem_of_getElem? (i := 354) (by decide +kernel), List.mem_of_getElem? (i := 481) (by decide +kernel), List.mem_of_getElem? (i := 482) (by decide +kernel)⟩
theorem lw_p3 : lw_okq (⟨"MeshRouter$RuleReader", "readDigit", "(II)I"⟩, 3) := ⟨⟨by decide +kernel, by decide +kernel⟩, List.mem_of_getElem? (i := 354) (by decide +kernel), List.mem_of_getElem? (i := 485) (by decide +kernel), List.mem_of_getElem? (i := 486) (by decide +kernel)⟩
theorem lw_p4 : lw_okq (⟨"MeshRouter$RuleReader", "readTargets", "()Z"⟩, 3) := ⟨⟨by decide +kernel, by decide +kernel⟩, List.mem_of_getElem? (i := 354) (by decide +kernel), List.mem_of_getElem? (i := 490) (by decide +kernel), List.mem_of_getElem? (i := 491) (by decide +kernel)⟩
theorem lw_p5 : lw_okq (⟨"MeshRouter$RuleReader", "readTarget", "()Z"⟩, 3) := ⟨⟨by decide +kernel, by decide +kernel⟩, List.mem_of_getElem? (i := 354) (by decide +kernel), List.mem_of_getElem? (i := 494) (by decide +kernel), List.mem_of_getElem? (i := 495) (by decide +kernel)⟩
theorem lw_p6 : lw_okq (⟨"MeshRouter$RuleReader", "readShadow", "()Z"⟩, 3) := ⟨⟨by decide +kernel, by decide +kernel⟩, List.mem_of_getElem? (i := 354) (by decide +kernel), List.mem_of_getElem? (i := 510) (by decide +kernel), List.mem_of_getElem? (i := 511) (by decide +kernel)⟩
theorem lw_p7 : lw_okq (⟨"MeshRouter$RuleReader", "readAttempts", "()Z"⟩, 3) := ⟨⟨by decide +kernel, by decide +kernel⟩, List.mem_of_getElem? (i := 354) (by decide +kernel), List.mem_of_getElem? (i := 514) (by decide +kernel), List.mem_of_getElem? (i := 515) (by decide +kernel)⟩
theorem lw_p8 : lw_okq (⟨"MeshRouter", "requestError", "(II)I"⟩, 9) := ⟨⟨by decide +kernel, by decide +kernel⟩, List.mem_of_getElem? (i := 15) (by decide +kernel), List.mem_of_getElem? (i := 559) (by decide +kernel), List.mem_of_getElem? (i := 560) (by decide +kernel)⟩
theorem lw_p9 : lw_okq (⟨"MeshRouter$Mesh", "chooseService", "(LMeshRouter$Rule;)I"⟩, 16) := ⟨⟨by decide +kernel, by decide +kernel⟩, List.mem_of_getElem? (i := 23) (by decide +kernel), List.mem_of_getElem? (i := 594) (by decide +kernel), List.mem_of_getElem? (i := 595) (by decide +kernel)⟩
theorem lw_p10 : lw_okq (⟨"MeshRouter$Mesh", "hasAvailable", "(I)Z"⟩, 16) := ⟨⟨by decide +kernel, by decide +kernel⟩, List.mem_of_getElem? (i := 23) (by decide +kernel), List.mem_of_getElem? (i := 598) (by decide +kernel), List.mem_of_getElem? (i := 599) (by decide +kernel)⟩
theorem lw_p11 : lw_okq (⟨"MeshRouter$Mesh", "serve", "(IIII)I"⟩, 16) := ⟨⟨by decide +kernel, by decide +kernel⟩, List.mem_of_getElem? (i := 23) (by decide +kernel), List.mem_of_getElem? (i := 609) (by decide +kernel), List.mem_of_getElem? (i := 610) (by decide +kernel)⟩
theorem lw_p12 : lw_okq (⟨"MeshRouter$Mesh", "gatherCandidates", "(I)Z"⟩, 16) := ⟨⟨by decide +kernel, by decide +kernel⟩, List.mem_of_getElem? (i := 23) (by decide +kernel), List.mem_of_getElem? (i := 620) (by decide +kernel), List.mem_of_getElem? (i := 621) (by decide +kernel)⟩
theorem lw_p13 : lw_okq (⟨"MeshRouter$Mesh", "pick", "(III)I"⟩, 16) := ⟨⟨by decide +kernel, by decide +kernel⟩, List.mem_of_getElem? (i := 23) (by decide +kernel), List.mem_of_getElem? (i := 624) (by decide +kernel), List.mem_of_getElem? (i := 625) (by decide +kernel)⟩
theorem lw_p14 : lw_okq (⟨"MeshRouter$Mesh", "narrow", "(II)V"⟩, 16) := ⟨⟨by decide +kernel, by decide +kernel⟩, List.mem_of_getElem? (i := 23) (by decide +kernel), List.mem_of_getElem? (i := 628) (by decide +kernel), List.mem_of_getElem? (i := 629) (by decide +kernel)⟩
theorem lw_p15 : lw_okq (⟨"MeshRouter$Mesh", "pickLeastUsed", "()I"⟩, 16) := ⟨⟨by decide +kernel, by decide +kernel⟩, List.mem_of_getElem? (i := 23) (by decide +kernel), List.mem_of_getElem? (i := 640) (by decide +kernel), List.mem_of_getElem? (i := 641) (by decide +kernel)⟩
def lw_privs_1 : List (MethodName × Nat) := [(⟨"MeshRouter$RuleReader", "readPrefix", "()Z"⟩, 3), (⟨"MeshRouter$RuleReader", "readRange", "()Z"⟩, 3), (⟨"MeshRouter$RuleReader", "readSign", "(C)Z"⟩, 3), (⟨"MeshRouter$RuleReader", "readDigit", "(II)I"⟩, 3), (⟨"MeshRouter$RuleReader", "readTargets", "()Z"⟩, 3), (⟨"MeshRouter$RuleReader", "readTarget", "()Z"⟩, 3), (⟨"MeshRouter$RuleReader", "readShadow", "()Z"⟩, 3), (⟨"MeshRouter$RuleReader", "readAttempts", "()Z"⟩, 3), (⟨"MeshRouter", "requestError", "(II)I"⟩, 9), (⟨"MeshRouter$Mesh", "chooseService", "(LMeshRouter$Rule;)I"⟩, 16), (⟨"MeshRouter$Mesh", "hasAvailable", "(I)Z"⟩, 16), (⟨"MeshRouter$Mesh", "serve", "(IIII)I"⟩, 16), (⟨"MeshRouter$Mesh", "gatherCandidates", "(I)Z"⟩, 16), (⟨"MeshRouter$Mesh", "pick", "(III)I"⟩, 16), (⟨"MeshRouter$Mesh", "narrow", "(II)V"⟩, 16), (⟨"MeshRouter$Mesh", "pickLeastUsed", "()I"⟩, 16)]
theorem lw_r1 : ∀ q ∈ lw_privs_1, lw_okq q := List.forall_mem_cons.mpr ⟨lw_p0, List.forall_mem_cons.mpr ⟨lw_p1, List.forall_mem_cons.mpr ⟨lw_p2, List.forall_mem_cons.mpr ⟨lw_p3, List.forall_mem_cons.mpr ⟨lw_p4, List.forall_mem_cons.mpr ⟨lw_p5, List.forall_mem_cons.mpr ⟨lw_p6, List.forall_mem_cons.mpr ⟨lw_p7, List.forall_mem_cons.mpr ⟨lw_p8, List.forall_mem_cons.mpr ⟨lw_p9, List.forall_mem_cons.mpr ⟨lw_p10, List.forall_mem_cons.mpr ⟨lw_p11, List.forall_mem_cons.mpr ⟨lw_p12, List.forall_mem_cons.mpr ⟨lw_p13, List.forall_mem_cons.mpr ⟨lw_p14, List.forall_mem_cons.mpr ⟨lw_p15, fun _ h => absurd h List.not_mem_nil⟩⟩⟩⟩⟩⟩⟩⟩⟩⟩⟩⟩⟩⟩⟩⟩
theorem lw_p16 : lw_okq (⟨"MeshRouter$Mesh", "pickSticky", "(LMeshRouter$Service;I)I"⟩, 16) := ⟨⟨by decide +kernel, by decide +kernel⟩, List.mem_of_getElem? (i := 23) (by decide +kernel), List.mem_of_getElem? (i := 648) (by decide +kernel), List.mem_of_getElem? (i := 649) (by decide +kernel)⟩
theorem lw_p17 : lw_okq (⟨"MeshRouter$Mesh", "attempt", "(II)Z"⟩, 16) := ⟨⟨by decide +kernel, by decide +kernel⟩, List.mem_of_getElem? (i := 23) (by decide +kernel), List.mem_of_getElem? (i := 653) (by decide +kernel), List.mem_of_getElem? (i := 654) (by decide +kernel)⟩
theorem lw_p18 : lw_okq (⟨"MeshRouter$Mesh", "isToEject", "(LMeshRouter$Backend;)Z"⟩, 16) := ⟨⟨by decide +kernel, by decide +kernel⟩, List.mem_of_getElem? (i := 23) (by decide +kernel), List.mem_of_getElem? (i := 664) (by decide +kernel), List.mem_of_getElem? (i := 665) (by decide +kernel)⟩
theorem lw_p19 : lw_okq (⟨"MeshRouter$Mesh", "countMembers", "(IZ)I"⟩, 16) := ⟨⟨by decide +kernel, by decide +kernel⟩, List.mem_of_getElem? (i := 23) (by decide +kernel), List.mem_of_getElem? (i := 668) (by decide +kernel), List.mem_of_getElem? (i := 669) (by decide +kernel)⟩
theorem lw_p20 : lw_okq (⟨"MeshRouter$Mesh", "mirror", "(I)V"⟩, 16) := ⟨⟨by decide +kernel, by decide +kernel⟩, List.mem_of_getElem? (i := 23) (by decide +kernel), List.mem_of_getElem? (i := 680) (by decide +kernel), List.mem_of_getElem? (i := 681) (by decide +kernel)⟩
theorem lw_p21 : lw_okq (⟨"MeshRouter$Mesh", "tally", "(I)V"⟩, 16) := ⟨⟨by decide +kernel, by decide +kernel⟩, List.mem_of_getElem? (i := 23) (by decide +kernel), List.mem_of_getElem? (i := 688) (by decide +kernel), List.mem_of_getElem? (i := 689) (by decide +kernel)⟩
theorem lw_p22 : lw_okq (⟨"MeshRouter$Recording", "makesRoomFor", "(I)Z"⟩, 7) := ⟨⟨by decide +kernel, by decide +kernel⟩, List.mem_of_getElem? (i := 318) (by decide +kernel), List.mem_of_getElem? (i := 696) (by decide +kernel), List.mem_of_getElem? (i := 697) (by decide +kernel)⟩
theorem lw_p23 : lw_okq (⟨"MeshRouter", "playError", "(I)I"⟩, 9) := ⟨⟨by decide +kernel, by decide +kernel⟩, List.mem_of_getElem? (i := 15) (by decide +kernel), List.mem_of_getElem? (i := 799) (by decide +kernel), List.mem_of_getElem? (i := 800) (by decide +kernel)⟩
theorem lw_p24 : lw_okq (⟨"MeshRouter", "playAgain", "(I)V"⟩, 9) := ⟨⟨by decide +kernel, by decide +kernel⟩, List.mem_of_getElem? (i := 15) (by decide +kernel), List.mem_of_getElem? (i := 803) (by decide +kernel), List.mem_of_getElem? (i := 804) (by decide +kernel)⟩
theorem lw_p25 : lw_okq (⟨"MeshRouterModel", "changes", "()V"⟩, 18) := ⟨⟨by decide +kernel, by decide +kernel⟩, List.mem_of_getElem? (i := 832) (by decide +kernel), List.mem_of_getElem? (i := 900) (by decide +kernel), List.mem_of_getElem? (i := 901) (by decide +kernel)⟩
theorem lw_p26 : lw_okq (⟨"MeshRouterModel", "sets", "(III)V"⟩, 18) := ⟨⟨by decide +kernel, by decide +kernel⟩, List.mem_of_getElem? (i := 832) (by decide +kernel), List.mem_of_getElem? (i := 904) (by decide +kernel), List.mem_of_getElem? (i := 905) (by decide +kernel)⟩
theorem lw_p27 : lw_okq (⟨"MeshRouterModel", "put", "(IIII)I"⟩, 18) := ⟨⟨by decide +kernel, by decide +kernel⟩, List.mem_of_getElem? (i := 832) (by decide +kernel), List.mem_of_getElem? (i := 912) (by decide +kernel), List.mem_of_getElem? (i := 913) (by decide +kernel)⟩
theorem lw_p28 : lw_okq (⟨"MeshRouterModel", "isBackend", "(I)Z"⟩, 18) := ⟨⟨by decide +kernel, by decide +kernel⟩, List.mem_of_getElem? (i := 832) (by decide +kernel), List.mem_of_getElem? (i := 916) (by decide +kernel), List.mem_of_getElem? (i := 917) (by decide +kernel)⟩
theorem lw_p29 : lw_okq (⟨"MeshRouterModel", "of", "(II)I"⟩, 18) := ⟨⟨by decide +kernel, by decide +kernel⟩, List.mem_of_getElem? (i := 832) (by decide +kernel), List.mem_of_getElem? (i := 920) (by decide +kernel), List.mem_of_getElem? (i := 921) (by decide +kernel)⟩
theorem lw_p30 : lw_okq (⟨"MeshRouterModel", "reads", "()V"⟩, 18) := ⟨⟨by decide +kernel, by decide +kernel⟩, List.mem_of_getElem? (i := 832) (by decide +kernel), List.mem_of_getElem? (i := 944) (by decide +kernel), List.mem_of_getElem? (i := 945) (by decide +kernel)⟩
theorem lw_p31 : lw_okq (⟨"MeshRouterModel", "here", "()I"⟩, 18) := ⟨⟨by decide +kernel, by decide +kernel⟩, List.mem_of_getElem? (i := 832) (by decide +kernel), List.mem_of_getElem? (i := 948) (by decide +kernel), List.mem_of_getElem? (i := 949) (by decide +kernel)⟩
def lw_privs_2 : List (MethodName × Nat) := [(⟨"MeshRouter$Mesh", "pickSticky", "(LMeshRouter$Service;I)I"⟩, 16), (⟨"MeshRouter$Mesh", "attempt", "(II)Z"⟩, 16), (⟨"MeshRouter$Mesh", "isToEject", "(LMeshRouter$Backend;)Z"⟩, 16), (⟨"MeshRouter$Mesh", "countMembers", "(IZ)I"⟩, 16), (⟨"MeshRouter$Mesh", "mirror", "(I)V"⟩, 16), (⟨"MeshRouter$Mesh", "tally", "(I)V"⟩, 16), (⟨"MeshRouter$Recording", "makesRoomFor", "(I)Z"⟩, 7), (⟨"MeshRouter", "playError", "(I)I"⟩, 9), (⟨"MeshRouter", "playAgain", "(I)V"⟩, 9), (⟨"MeshRouterModel", "changes", "()V"⟩, 18), (⟨"MeshRouterModel", "sets", "(III)V"⟩, 18), (⟨"MeshRouterModel", "put", "(IIII)I"⟩, 18), (⟨"MeshRouterModel", "isBackend", "(I)Z"⟩, 18), (⟨"MeshRouterModel", "of", "(II)I"⟩, 18), (⟨"MeshRouterModel", "reads", "()V"⟩, 18), (⟨"MeshRouterModel", "here", "()I"⟩, 18)]
theorem lw_r2 : ∀ q ∈ lw_privs_2, lw_okq q := List.forall_mem_cons.mpr ⟨lw_p16, List.forall_mem_cons.mpr ⟨lw_p17, List.forall_mem_cons.mpr ⟨lw_p18, List.forall_mem_cons.mpr ⟨lw_p19, List.forall_mem_cons.mpr ⟨lw_p20, List.forall_mem_cons.mpr ⟨lw_p21, List.forall_mem_cons.mpr ⟨lw_p22, List.forall_mem_cons.mpr ⟨lw_p23, List.forall_mem_cons.mpr ⟨lw_p24, List.forall_mem_cons.mpr ⟨lw_p25, List.forall_mem_cons.mpr ⟨lw_p26, List.forall_mem_cons.mpr ⟨lw_p27, List.forall_mem_cons.mpr ⟨lw_p28, List.forall_mem_cons.mpr ⟨lw_p29, List.forall_mem_cons.mpr ⟨lw_p30, List.forall_mem_cons.mpr ⟨lw_p31, fun _ h => absurd h List.not_mem_nil⟩⟩⟩⟩⟩⟩⟩⟩⟩⟩⟩⟩⟩⟩⟩⟩
theorem lw_p32 : lw_okq (⟨"MeshRouterModel", "digit", "(II)I"⟩, 18) := ⟨⟨by decide +kernel, by decide +kernel⟩, List.mem_of_getElem? (i := 832) (by decide +kernel), List.mem_of_getElem? (i := 955) (by decide +kernel), List.mem_of_getElem? (i := 956) (by decide +kernel)⟩
theorem lw_p33 : lw_okq (⟨"MeshRouterModel", "sign", "(I)V"⟩, 18) := ⟨⟨by decide +kernel, by decide +kernel⟩, List.mem_of_getElem? (i := 832) (by decide +kernel), List.mem_of_getElem? (i := 959) (by decide +kernel), List.mem_of_getElem? (i := 960) (by decide +kernel)⟩
theorem lw_p34 : lw_okq (⟨"MeshRouterModel", "target", "()V"⟩, 18) := ⟨⟨by decide +kernel, by decide +kernel⟩, List.mem_of_getElem? (i := 832) (by decide +kernel), List.mem_of_getElem? (i := 963) (by decide +kernel), List.mem_of_getElem? (i := 964) (by decide +kernel)⟩
theorem lw_p35 : lw_okq (⟨"MeshRouterModel", "isRule", "(I)Z"⟩, 18) := ⟨⟨by decide +kernel, by decide +kernel⟩, List.mem_of_getElem? (i := 832) (by decide +kernel), List.mem_of_getElem? (i := 971) (by decide +kernel), List.mem_of_getElem? (i := 972) (by decide +kernel)⟩
theorem lw_p36 : lw_okq (⟨"MeshRouterModel", "swaps", "(I)V"⟩, 18) := ⟨⟨by decide +kernel, by decide +kernel⟩, List.mem_of_getElem? (i := 832) (by decide +kernel), List.mem_of_getElem? (i := 979) (by decide +kernel), List.mem_of_getElem? (i := 980) (by decide +kernel)⟩
theorem lw_p37 : lw_okq (⟨"MeshRouterModel", "isPath", "()Z"⟩, 18) := ⟨⟨by decide +kernel, by decide +kernel⟩, List.mem_of_getElem? (i := 832) (by decide +kernel), List.mem_of_getElem? (i := 987) (by decide +kernel), List.mem_of_getElem? (i := 988) (by decide +kernel)⟩
theorem lw_p38 : lw_okq (⟨"MeshRouterModel", "ruleOf", "(I)I"⟩, 18) := ⟨⟨by decide +kernel, by decide +kernel⟩, List.mem_of_getElem? (i := 832) (by decide +kernel), List.mem_of_getElem? (i := 991) (by decide +kernel), List.mem_of_getElem? (i := 992) (by decide +kernel)⟩
theorem lw_p39 : lw_okq (⟨"MeshRouterModel", "fits", "(II)Z"⟩, 18) := ⟨⟨by decide +kernel, by decide +kernel⟩, List.mem_of_getElem? (i := 832) (by decide +kernel), List.mem_of_getElem? (i := 995) (by decide +kernel), List.mem_of_getElem? (i := 996) (by decide +kernel)⟩
theorem lw_p40 : lw_okq (⟨"MeshRouterModel", "refuses", "(II)I"⟩, 18) := ⟨⟨by decide +kernel, by decide +kernel⟩, List.mem_of_getElem? (i := 832) (by decide +kernel), List.mem_of_getElem? (i := 1003) (by decide +kernel), List.mem_of_getElem? (i := 1004) (by decide +kernel)⟩
theorem lw_p41 : lw_okq (⟨"MeshRouterModel", "answers", "(II)I"⟩, 18) := ⟨⟨by decide +kernel, by decide +kernel⟩, List.mem_of_getElem? (i := 832) (by decide +kernel), List.mem_of_getElem? (i := 1007) (by decide +kernel), List.mem_of_getElem? (i := 1008) (by decide +kernel)⟩
theorem lw_p42 : lw_okq (⟨"MeshRouterModel", "choosesTarget", "(I)I"⟩, 18) := ⟨⟨by decide +kernel, by decide +kernel⟩, List.mem_of_getElem? (i := 832) (by decide +kernel), List.mem_of_getElem? (i := 1011) (by decide +kernel), List.mem_of_getElem? (i := 1012) (by decide +kernel)⟩
theorem lw_p43 : lw_okq (⟨"MeshRouterModel", "availables", "(I)I"⟩, 18) := ⟨⟨by decide +kernel, by decide +kernel⟩, List.mem_of_getElem? (i := 832) (by decide +kernel), List.mem_of_getElem? (i := 1015) (by decide +kernel), List.mem_of_getElem? (i := 1016) (by decide +kernel)⟩
theorem lw_p44 : lw_okq (⟨"MeshRouterModel", "isAvailable", "(II)Z"⟩, 18) := ⟨⟨by decide +kernel, by decide +kernel⟩, List.mem_of_getElem? (i := 832) (by decide +kernel), List.mem_of_getElem? (i := 1019) (by decide +kernel), List.mem_of_getElem? (i := 1020) (by decide +kernel)⟩
theorem lw_p45 : lw_okq (⟨"MeshRouterModel", "isMember", "(II)Z"⟩, 18) := ⟨⟨by decide +kernel, by decide +kernel⟩, List.mem_of_getElem? (i := 832) (by decide +kernel), List.mem_of_getElem? (i := 1023) (by decide +kernel), List.mem_of_getElem? (i := 1024) (by decide +kernel)⟩
theorem lw_p46 : lw_okq (⟨"MeshRouterModel", "serves", "(IIII)I"⟩, 18) := ⟨⟨by decide +kernel, by decide +kernel⟩, List.mem_of_getElem? (i := 832) (by decide +kernel), List.mem_of_getElem? (i := 1027) (by decide +kernel), List.mem_of_getElem? (i := 1028) (by decide +kernel)⟩
theorem lw_p47 : lw_okq (⟨"MeshRouterModel", "picks", "(IIII)I"⟩, 18) := ⟨⟨by decide +kernel, by decide +kernel⟩, List.mem_of_getElem? (i := 832) (by decide +kernel), List.mem_of_getElem? (i := 1031) (by decide +kernel), List.mem_of_getElem? (i := 1032) (by decide +kernel)⟩
def lw_privs_3 : List (MethodName × Nat) := [(⟨"MeshRouterModel", "digit", "(II)I"⟩, 18), (⟨"MeshRouterModel", "sign", "(I)V"⟩, 18), (⟨"MeshRouterModel", "target", "()V"⟩, 18), (⟨"MeshRouterModel", "isRule", "(I)Z"⟩, 18), (⟨"MeshRouterModel", "swaps", "(I)V"⟩, 18), (⟨"MeshRouterModel", "isPath", "()Z"⟩, 18), (⟨"MeshRouterModel", "ruleOf", "(I)I"⟩, 18), (⟨"MeshRouterModel", "fits", "(II)Z"⟩, 18), (⟨"MeshRouterModel", "refuses", "(II)I"⟩, 18), (⟨"MeshRouterModel", "answers", "(II)I"⟩, 18), (⟨"MeshRouterModel", "choosesTarget", "(I)I"⟩, 18), (⟨"MeshRouterModel", "availables", "(I)I"⟩, 18), (⟨"MeshRouterModel", "isAvailable", "(II)Z"⟩, 18), (⟨"MeshRouterModel", "isMember", "(II)Z"⟩, 18), (⟨"MeshRouterModel", "serves", "(IIII)I"⟩, 18), (⟨"MeshRouterModel", "picks", "(IIII)I"⟩, 18)]
theorem lw_r3 : ∀ q ∈ lw_privs_3, lw_okq q := List.forall_mem_cons.mpr ⟨lw_p32, List.forall_mem_cons.mpr ⟨lw_p33, List.forall_mem_cons.mpr ⟨lw_p34, List.forall_mem_cons.mpr ⟨lw_p35, List.forall_mem_cons.mpr ⟨lw_p36, List.forall_mem_cons.mpr ⟨lw_p37, List.forall_mem_cons.mpr ⟨lw_p38, List.forall_mem_cons.mpr ⟨lw_p39, List.forall_mem_cons.mpr ⟨lw_p40, List.forall_mem_cons.mpr ⟨lw_p41, List.forall_mem_cons.mpr ⟨lw_p42, List.forall_mem_cons.mpr ⟨lw_p43, List.forall_mem_cons.mpr ⟨lw_p44, List.forall_mem_cons.mpr ⟨lw_p45, List.forall_mem_cons.mpr ⟨lw_p46, List.forall_mem_cons.mpr ⟨lw_p47, fun _ h => absurd h List.not_mem_nil⟩⟩⟩⟩⟩⟩⟩⟩⟩⟩⟩⟩⟩⟩⟩⟩
theorem lw_p48 : lw_okq (⟨"MeshRouterModel", "narrowed", "(III)I"⟩, 18) := ⟨⟨by decide +kernel, by decide +kernel⟩, List.mem_of_getElem? (i := 832) (by decide +kernel), List.mem_of_getElem? (i := 1035) (by decide +kernel), List.mem_of_getElem? (i := 1036) (by decide +kernel)⟩
theorem lw_p49 : lw_okq (⟨"MeshRouterModel", "weights", "(I)I"⟩, 18) := ⟨⟨by decide +kernel, by decide +kernel⟩, List.mem_of_getElem? (i := 832) (by decide +kernel), List.mem_of_getElem? (i := 1039) (by decide +kernel), List.mem_of_getElem? (i := 1040) (by decide +kernel)⟩
theorem lw_p50 : lw_okq (⟨"MeshRouterModel", "byWeights", "(I)I"⟩, 18) := ⟨⟨by decide +kernel, by decide +kernel⟩, List.mem_of_getElem? (i := 832) (by decide +kernel), List.mem_of_getElem? (i := 1043) (by decide +kernel), List.mem_of_getElem? (i := 1044) (by decide +kernel)⟩
theorem lw_p51 : lw_okq (⟨"MeshRouterModel", "leastUsed", "(I)I"⟩, 18) := ⟨⟨by decide +kernel, by decide +kernel⟩, List.mem_of_getElem? (i := 832) (by decide +kernel), List.mem_of_getElem? (i := 1047) (by decide +kernel), List.mem_of_getElem? (i := 1048) (by decide +kernel)⟩
theorem lw_p52 : lw_okq (⟨"MeshRouterModel", "tries", "(III)Z"⟩, 18) := ⟨⟨by decide +kernel, by decide +kernel⟩, List.mem_of_getElem? (i := 832) (by decide +kernel), List.mem_of_getElem? (i := 1051) (by decide +kernel), List.mem_of_getElem? (i := 1052) (by decide +kernel)⟩
theorem lw_p53 : lw_okq (⟨"MeshRouterModel", "ejects", "(II)V"⟩, 18) := ⟨⟨by decide +kernel, by decide +kernel⟩, List.mem_of_getElem? (i := 832) (by decide +kernel), List.mem_of_getElem? (i := 1055) (by decide +kernel), List.mem_of_getElem? (i := 1056) (by decide +kernel)⟩
theorem lw_p54 : lw_okq (⟨"MeshRouterModel", "mirrors", "(I)V"⟩, 18) := ⟨⟨by decide +kernel, by decide +kernel⟩, List.mem_of_getElem? (i := 832) (by decide +kernel), List.mem_of_getElem? (i := 1059) (by decide +kernel), List.mem_of_getElem? (i := 1060) (by decide +kernel)⟩
theorem lw_p55 : lw_okq (⟨"MeshRouterModel", "ticks", "()V"⟩, 18) := ⟨⟨by decide +kernel, by decide +kernel⟩, List.mem_of_getElem? (i := 832) (by decide +kernel), List.mem_of_getElem? (i := 1074) (by decide +kernel), List.mem_of_getElem? (i := 1075) (by decide +kernel)⟩
theorem lw_p56 : lw_okq (⟨"MeshRouterModel", "members", "(IZ)I"⟩, 18) := ⟨⟨by decide +kernel, by decide +kernel⟩, List.mem_of_getElem? (i := 832) (by decide +kernel), List.mem_of_getElem? (i := 1086) (by decide +kernel), List.mem_of_getElem? (i := 1087) (by decide +kernel)⟩
theorem lw_p57 : lw_okq (⟨"MeshRouterModel", "prints", "(I)V"⟩, 18) := ⟨⟨by decide +kernel, by decide +kernel⟩, List.mem_of_getElem? (i := 832) (by decide +kernel), List.mem_of_getElem? (i := 1110) (by decide +kernel), List.mem_of_getElem? (i := 1111) (by decide +kernel)⟩
theorem lw_p58 : lw_okq (⟨"MeshRouterModel", "printsTwo", "(II)V"⟩, 18) := ⟨⟨by decide +kernel, by decide +kernel⟩, List.mem_of_getElem? (i := 832) (by decide +kernel), List.mem_of_getElem? (i := 1114) (by decide +kernel), List.mem_of_getElem? (i := 1115) (by decide +kernel)⟩
theorem lw_p59 : lw_okq (⟨"MeshRouterModel", "plays", "(IZ)I"⟩, 18) := ⟨⟨by decide +kernel, by decide +kernel⟩, List.mem_of_getElem? (i := 832) (by decide +kernel), List.mem_of_getElem? (i := 1130) (by decide +kernel), List.mem_of_getElem? (i := 1131) (by decide +kernel)⟩
def lw_privs_4 : List (MethodName × Nat) := [(⟨"MeshRouterModel", "narrowed", "(III)I"⟩, 18), (⟨"MeshRouterModel", "weights", "(I)I"⟩, 18), (⟨"MeshRouterModel", "byWeights", "(I)I"⟩, 18), (⟨"MeshRouterModel", "leastUsed", "(I)I"⟩, 18), (⟨"MeshRouterModel", "tries", "(III)Z"⟩, 18), (⟨"MeshRouterModel", "ejects", "(II)V"⟩, 18), (⟨"MeshRouterModel", "mirrors", "(I)V"⟩, 18), (⟨"MeshRouterModel", "ticks", "()V"⟩, 18), (⟨"MeshRouterModel", "members", "(IZ)I"⟩, 18), (⟨"MeshRouterModel", "prints", "(I)V"⟩, 18), (⟨"MeshRouterModel", "printsTwo", "(II)V"⟩, 18), (⟨"MeshRouterModel", "plays", "(IZ)I"⟩, 18)]
theorem lw_r4 : ∀ q ∈ lw_privs_4, lw_okq q := List.forall_mem_cons.mpr ⟨lw_p48, List.forall_mem_cons.mpr ⟨lw_p49, List.forall_mem_cons.mpr ⟨lw_p50, List.forall_mem_cons.mpr ⟨lw_p51, List.forall_mem_cons.mpr ⟨lw_p52, List.forall_mem_cons.mpr ⟨lw_p53, List.forall_mem_cons.mpr ⟨lw_p54, List.forall_mem_cons.mpr ⟨lw_p55, List.forall_mem_cons.mpr ⟨lw_p56, List.forall_mem_cons.mpr ⟨lw_p57, List.forall_mem_cons.mpr ⟨lw_p58, List.forall_mem_cons.mpr ⟨lw_p59, fun _ h => absurd h List.not_mem_nil⟩⟩⟩⟩⟩⟩⟩⟩⟩⟩⟩⟩
def lw_privs : List (MethodName × Nat) := lw_privs_1 ++ (lw_privs_2 ++ (lw_privs_3 ++ (lw_privs_4)))
def lw_tbl : List Cond := k2_sels lw_privs ++ tables_1
theorem lw_privs_ok : ∀ q ∈ lw_privs, lw_okq q := by
  show ∀ q ∈ lw_privs_1 ++ (lw_privs_2 ++ (lw_privs_3 ++ (lw_privs_4))), lw_okq q
  exact List.forall_mem_append.mpr ⟨lw_r1, List.forall_mem_append.mpr ⟨lw_r2, List.forall_mem_append.mpr ⟨lw_r3, lw_r4⟩⟩⟩
end
section
/-! ===== BEGIN words of one list among another's, by their places ===== -/
theorem goodIn_r {big : List Cond} (ws : List Cond) (ps : List Nat) (hp : ws = ps.filterMap (fun i => big[i]?)) (h : ws.all goodWord = true) : GoodIn big ws := by
  intro w hw
  have h1 := List.all_eq_true.mp h w hw
  rw [hp] at hw
  obtain ⟨i, -, hi⟩ := List.mem_filterMap.mp hw
  have hm : w ∈ big := by first | exact List.mem_of_getElem? hi | exact List.getElem?_mem hi
  exact ⟨hm, good_of_word h1⟩
theorem goodIn_app {big a b : List Cond} (ha : GoodIn big a) (hb : GoodIn big b) : GoodIn big (a ++ b) := fun w h => (List.mem_append.mp h).elim (ha w) (hb w)
theorem goodIn_ca {big a b : List Cond} {c : Cond} (ha : GoodIn big (c :: a)) (hb : GoodIn big b) : GoodIn big (c :: (a ++ b)) := fun w h => (List.mem_cons.mp h).elim (fun e => ha w (List.mem_cons.mpr (Or.inl e))) (fun h => (List.mem_append.mp h).elim (fun h => ha w (List.mem_cons.mpr (Or.inr h))) (hb w))
theorem goodIn_sub {big ws : List Cond} (hm : ∀ w ∈ ws, w ∈ big) (h : ws.all goodWord = true) : GoodIn big ws := fun w hw => ⟨hm w hw, good_of_word (List.all_eq_true.mp h w hw)⟩
/-! ===== END ===== -/

/-! ===== BEGIN printed: names, fields, word lists, decode rows ===== -/
def RX0 : String := "MeshRouter$Backend"
def TX0 : u_T := fun k => match k with
  | 0 => ("MeshRouter$Weighted", "weight", "I", false)
  | 1 => ("MeshRouter$Weighted", "credit", "I", false)
  | 2 => ("MeshRouter$Weighted", "candidate", "Z", false)
  | 3 => ("MeshRouter$Backend", "service", "I", false)
  | 4 => ("MeshRouter$Backend", "zone", "I", false)
  | 5 => ("MeshRouter$Backend", "pattern", "I", false)
  | 6 => ("MeshRouter$Backend", "attempts", "I", false)
  | 7 => ("MeshRouter$Backend", "successes", "I", false)
  | 8 => ("MeshRouter$Backend", "failureRun", "I", false)
  | 9 => ("MeshRouter$Backend", "ejections", "I", false)
  | 10 => ("MeshRouter$Backend", "ejectedFor", "I", false)
  | 11 => ("MeshRouter$Backend", "shadowAttempts", "I", false)
  | 12 => ("MeshRouter$Backend", "shadowSuccesses", "I", false)
  | _ => ("MeshRouter$Backend", "attempted", "Z", false)
def tyX0 : Nat → FieldType := fun k => match k with
  | 0 => .int
  | 1 => .int
  | 2 => .boolean
  | 3 => .int
  | 4 => .int
  | 5 => .int
  | 6 => .int
  | 7 => .int
  | 8 => .int
  | 9 => .int
  | 10 => .int
  | 11 => .int
  | 12 => .int
  | _ => .boolean
abbrev wsX00 : List Cond := u_ws RX0 TX0 14
theorem nmX0 : ∀ a, a < 14 → ∀ b, b < 14 → a ≠ b → (TX0 a).2.1 ≠ (TX0 b).2.1 := by decide +kernel
theorem tyX0_ok : ∀ k, k < 14 → parseFieldDescriptor (TX0 k).2.2.1 = some (tyX0 k) := by decide +kernel
abbrev cX0_init : ByteArray := prog_2_method_1_code
def yX0_init : MethodName := ⟨RX0, "<init>", "()V"⟩
abbrev cX0_begin : ByteArray := prog_2_method_2_code
def yX0_begin : MethodName := ⟨RX0, "begin", "(III)V"⟩
abbrev cX0_copyFrom : ByteArray := prog_2_method_3_code
def yX0_copyFrom : MethodName := ⟨RX0, "copyFrom", "(LMeshRouter$Backend;)V"⟩
abbrev cX0_isMemberOf : ByteArray := prog_2_method_4_code
def yX0_isMemberOf : MethodName := ⟨RX0, "isMemberOf", "(I)Z"⟩
abbrev cX0_isAvailableIn : ByteArray := prog_2_method_5_code
def yX0_isAvailableIn : MethodName := ⟨RX0, "isAvailableIn", "(I)Z"⟩
abbrev cX0_isLessUsedThan : ByteArray := prog_2_method_6_code
def yX0_isLessUsedThan : MethodName := ⟨RX0, "isLessUsedThan", "(LMeshRouter$Backend;)Z"⟩
abbrev cX0_attempt : ByteArray := prog_2_method_7_code
def yX0_attempt : MethodName := ⟨RX0, "attempt", "()Z"⟩
abbrev cX0_attemptAsShadow : ByteArray := prog_2_method_8_code
def yX0_attemptAsShadow : MethodName := ⟨RX0, "attemptAsShadow", "()V"⟩
abbrev cX0_eject : ByteArray := prog_2_method_9_code
def yX0_eject : MethodName := ⟨RX0, "eject", "(I)V"⟩
abbrev cX0_property : ByteArray := prog_2_method_10_code
def yX0_property : MethodName := ⟨RX0, "property", "(I)I"⟩
def RX1 : String := "MeshRouter$Mesh"
def TX1 : u_T := fun k => match k with
  | 0 => ("MeshRouter$Mesh", "backends", "[LMeshRouter$Backend;", true)
  | 1 => ("MeshRouter$Mesh", "backendCount", "I", false)
  | 2 => ("MeshRouter$Mesh", "services", "[LMeshRouter$Service;", true)
  | 3 => ("MeshRouter$Mesh", "rules", "[LMeshRouter$Rule;", true)
  | 4 => ("MeshRouter$Mesh", "ruleCount", "I", false)
  | 5 => ("MeshRouter$Mesh", "zoneLimit", "I", false)
  | 6 => ("MeshRouter$Mesh", "time", "I", false)
  | 7 => ("MeshRouter$Mesh", "requests", "I", false)
  | 8 => ("MeshRouter$Mesh", "answered", "I", false)
  | 9 => ("MeshRouter$Mesh", "withoutRoute", "I", false)
  | 10 => ("MeshRouter$Mesh", "withoutBackend", "I", false)
  | 11 => ("MeshRouter$Mesh", "failed", "I", false)
  | 12 => ("MeshRouter$Mesh", "attempts", "I", false)
  | 13 => ("MeshRouter$Mesh", "shadowAttempts", "I", false)
  | 14 => ("MeshRouter$Mesh", "ejections", "I", false)
  | _ => ("MeshRouter$Mesh", "trail", "LMeshRouter$Trail;", true)
def tyX1 : Nat → FieldType := fun k => match k with
  | 0 => .array (.object "MeshRouter$Backend")
  | 1 => .int
  | 2 => .array (.object "MeshRouter$Service")
  | 3 => .array (.object "MeshRouter$Rule")
  | 4 => .int
  | 5 => .int
  | 6 => .int
  | 7 => .int
  | 8 => .int
  | 9 => .int
  | 10 => .int
  | 11 => .int
  | 12 => .int
  | 13 => .int
  | 14 => .int
  | _ => .object "MeshRouter$Trail"
abbrev wsX10 : List Cond := u_ws RX1 TX1 16
theorem nmX1 : ∀ a, a < 16 → ∀ b, b < 16 → a ≠ b → (TX1 a).2.1 ≠ (TX1 b).2.1 := by decide +kernel
theorem tyX1_ok : ∀ k, k < 16 → parseFieldDescriptor (TX1 k).2.2.1 = some (tyX1 k) := by decide +kernel
abbrev cX1_init : ByteArray := prog_3_method_1_code
def yX1_init : MethodName := ⟨RX1, "<init>", "()V"⟩
abbrev cX1_copyFrom : ByteArray := prog_3_method_2_code
def yX1_copyFrom : MethodName := ⟨RX1, "copyFrom", "(LMeshRouter$Mesh;)V"⟩
abbrev cX1_hasBackend : ByteArray := prog_3_method_3_code
def yX1_hasBackend : MethodName := ⟨RX1, "hasBackend", "(I)Z"⟩
abbrev cX1_hasRule : ByteArray := prog_3_method_4_code
def yX1_hasRule : MethodName := ⟨RX1, "hasRule", "(I)Z"⟩
abbrev cX1_takeBackend : ByteArray := prog_3_method_5_code
def yX1_takeBackend : MethodName := ⟨RX1, "takeBackend", "(III)I"⟩
abbrev cX1_takeRule : ByteArray := prog_3_method_6_code
def yX1_takeRule : MethodName := ⟨RX1, "takeRule", "(LMeshRouter$Rule;)I"⟩
abbrev cX1_shiftRule : ByteArray := prog_3_method_7_code
def yX1_shiftRule : MethodName := ⟨RX1, "shiftRule", "(II)V"⟩
abbrev cX1_findRule : ByteArray := prog_3_method_8_code
def yX1_findRule : MethodName := ⟨RX1, "findRule", "(LMeshRouter$Text;I)I"⟩
abbrev cX1_passTick : ByteArray := prog_3_method_9_code
def yX1_passTick : MethodName := ⟨RX1, "passTick", "()V"⟩
abbrev cX1_impose : ByteArray := prog_3_method_10_code
def yX1_impose : MethodName := ⟨RX1, "impose", "(I)V"⟩
abbrev cX1_answer : ByteArray := prog_3_method_11_code
def yX1_answer : MethodName := ⟨RX1, "answer", "(III)I"⟩
abbrev cX1_tally : ByteArray := prog_3_method_12_code
def yX1_tally : MethodName := ⟨RX1, "tally", "(I)V"⟩
abbrev cX1_chooseService : ByteArray := prog_3_method_13_code
def yX1_chooseService : MethodName := ⟨RX1, "chooseService", "(LMeshRouter$Rule;)I"⟩
abbrev cX1_hasAvailable : ByteArray := prog_3_method_14_code
def yX1_hasAvailable : MethodName := ⟨RX1, "hasAvailable", "(I)Z"⟩
abbrev cX1_serve : ByteArray := prog_3_method_15_code
def yX1_serve : MethodName := ⟨RX1, "serve", "(IIII)I"⟩
abbrev cX1_gatherCandidates : ByteArray := prog_3_method_16_code
def yX1_gatherCandidates : MethodName := ⟨RX1, "gatherCandidates", "(I)Z"⟩
abbrev cX1_pick : ByteArray := prog_3_method_17_code
def yX1_pick : MethodName := ⟨RX1, "pick", "(III)I"⟩
abbrev cX1_narrow : ByteArray := prog_3_method_18_code
def yX1_narrow : MethodName := ⟨RX1, "narrow", "(II)V"⟩
abbrev cX1_pickLeastUsed : ByteArray := prog_3_method_19_code
def yX1_pickLeastUsed : MethodName := ⟨RX1, "pickLeastUsed", "()I"⟩
abbrev cX1_pickSticky : ByteArray := prog_3_method_20_code
def yX1_pickSticky : MethodName := ⟨RX1, "pickSticky", "(LMeshRouter$Service;I)I"⟩
abbrev cX1_attempt : ByteArray := prog_3_method_21_code
def yX1_attempt : MethodName := ⟨RX1, "attempt", "(II)Z"⟩
abbrev cX1_isToEject : ByteArray := prog_3_method_22_code
def yX1_isToEject : MethodName := ⟨RX1, "isToEject", "(LMeshRouter$Backend;)Z"⟩
abbrev cX1_countMembers : ByteArray := prog_3_method_23_code
def yX1_countMembers : MethodName := ⟨RX1, "countMembers", "(IZ)I"⟩
abbrev cX1_mirror : ByteArray := prog_3_method_24_code
def yX1_mirror : MethodName := ⟨RX1, "mirror", "(I)V"⟩
abbrev cX1_serviceProperty : ByteArray := prog_3_method_25_code
def yX1_serviceProperty : MethodName := ⟨RX1, "serviceProperty", "(II)I"⟩
abbrev cX1_property : ByteArray := prog_3_method_26_code
def yX1_property : MethodName := ⟨RX1, "property", "(I)I"⟩
def RX2 : String := "MeshRouter$Recording"
def TX2 : u_T := fun k => match k with
  | 0 => ("MeshRouter$Recording", "rules", "[I", true)
  | 1 => ("MeshRouter$Recording", "headers", "[I", true)
  | 2 => ("MeshRouter$Recording", "zones", "[I", true)
  | 3 => ("MeshRouter$Recording", "answers", "[I", true)
  | 4 => ("MeshRouter$Recording", "replies", "[I", true)
  | 5 => ("MeshRouter$Recording", "length", "I", false)
  | _ => ("MeshRouter$Recording", "running", "Z", false)
def tyX2 : Nat → FieldType := fun k => match k with
  | 0 => .array .int
  | 1 => .array .int
  | 2 => .array .int
  | 3 => .array .int
  | 4 => .array .int
  | 5 => .int
  | _ => .boolean
abbrev wsX20 : List Cond := u_ws RX2 TX2 7
theorem nmX2 : ∀ a, a < 7 → ∀ b, b < 7 → a ≠ b → (TX2 a).2.1 ≠ (TX2 b).2.1 := by decide +kernel
theorem tyX2_ok : ∀ k, k < 7 → parseFieldDescriptor (TX2 k).2.2.1 = some (tyX2 k) := by decide +kernel
abbrev cX2_init : ByteArray := prog_4_method_1_code
def yX2_init : MethodName := ⟨RX2, "<init>", "()V"⟩
abbrev cX2_start : ByteArray := prog_4_method_2_code
def yX2_start : MethodName := ⟨RX2, "start", "()V"⟩
abbrev cX2_stop : ByteArray := prog_4_method_3_code
def yX2_stop : MethodName := ⟨RX2, "stop", "()V"⟩
abbrev cX2_addRequest : ByteArray := prog_4_method_4_code
def yX2_addRequest : MethodName := ⟨RX2, "addRequest", "(IIII)V"⟩
abbrev cX2_addTicks : ByteArray := prog_4_method_5_code
def yX2_addTicks : MethodName := ⟨RX2, "addTicks", "(I)V"⟩
abbrev cX2_makesRoomFor : ByteArray := prog_4_method_6_code
def yX2_makesRoomFor : MethodName := ⟨RX2, "makesRoomFor", "(I)Z"⟩
abbrev cX2_changedAnswers : ByteArray := prog_4_method_7_code
def yX2_changedAnswers : MethodName := ⟨RX2, "changedAnswers", "()I"⟩
abbrev cX2_answersByBackends : ByteArray := prog_4_method_8_code
def yX2_answersByBackends : MethodName := ⟨RX2, "answersByBackends", "()I"⟩
def RX3 : String := "MeshRouter$Rule"
def TX3 : u_T := fun k => match k with
  | 0 => ("MeshRouter$Rule", "prefix", "LMeshRouter$Text;", true)
  | 1 => ("MeshRouter$Rule", "firstHeader", "I", false)
  | 2 => ("MeshRouter$Rule", "lastHeader", "I", false)
  | 3 => ("MeshRouter$Rule", "targets", "[LMeshRouter$Target;", true)
  | 4 => ("MeshRouter$Rule", "targetCount", "I", false)
  | 5 => ("MeshRouter$Rule", "mostAttempts", "I", false)
  | _ => ("MeshRouter$Rule", "shadow", "I", false)
def tyX3 : Nat → FieldType := fun k => match k with
  | 0 => .object "MeshRouter$Text"
  | 1 => .int
  | 2 => .int
  | 3 => .array (.object "MeshRouter$Target")
  | 4 => .int
  | 5 => .int
  | _ => .int
abbrev wsX30 : List Cond := u_ws RX3 TX3 7
theorem nmX3 : ∀ a, a < 7 → ∀ b, b < 7 → a ≠ b → (TX3 a).2.1 ≠ (TX3 b).2.1 := by decide +kernel
theorem tyX3_ok : ∀ k, k < 7 → parseFieldDescriptor (TX3 k).2.2.1 = some (tyX3 k) := by decide +kernel
abbrev cX3_init : ByteArray := prog_5_method_1_code
def yX3_init : MethodName := ⟨RX3, "<init>", "()V"⟩
abbrev cX3_begin : ByteArray := prog_5_method_2_code
def yX3_begin : MethodName := ⟨RX3, "begin", "()V"⟩
abbrev cX3_copyFrom : ByteArray := prog_5_method_3_code
def yX3_copyFrom : MethodName := ⟨RX3, "copyFrom", "(LMeshRouter$Rule;)V"⟩
abbrev cX3_matches : ByteArray := prog_5_method_4_code
def yX3_matches : MethodName := ⟨RX3, "matches", "(LMeshRouter$Text;I)Z"⟩
abbrev cX3_hasTarget : ByteArray := prog_5_method_5_code
def yX3_hasTarget : MethodName := ⟨RX3, "hasTarget", "(I)Z"⟩
abbrev cX3_takeTarget : ByteArray := prog_5_method_6_code
def yX3_takeTarget : MethodName := ⟨RX3, "takeTarget", "(II)V"⟩
abbrev cX3_printTo : ByteArray := prog_5_method_7_code
def yX3_printTo : MethodName := ⟨RX3, "printTo", "(LMeshRouter$Text;)V"⟩
def RX4 : String := "MeshRouter$RuleReader"
def TX4 : u_T := fun k => match k with
  | 0 => ("MeshRouter$RuleReader", "text", "LMeshRouter$Text;", true)
  | 1 => ("MeshRouter$RuleReader", "draft", "LMeshRouter$Rule;", true)
  | _ => ("MeshRouter$RuleReader", "offset", "I", false)
def tyX4 : Nat → FieldType := fun k => match k with
  | 0 => .object "MeshRouter$Text"
  | 1 => .object "MeshRouter$Rule"
  | _ => .int
abbrev wsX40 : List Cond := u_ws RX4 TX4 3
theorem nmX4 : ∀ a, a < 3 → ∀ b, b < 3 → a ≠ b → (TX4 a).2.1 ≠ (TX4 b).2.1 := by decide +kernel
theorem tyX4_ok : ∀ k, k < 3 → parseFieldDescriptor (TX4 k).2.2.1 = some (tyX4 k) := by decide +kernel
abbrev cX4_init : ByteArray := prog_6_method_1_code
def yX4_init : MethodName := ⟨RX4, "<init>", "(LMeshRouter$Text;)V"⟩
abbrev cX4_read : ByteArray := prog_6_method_2_code
def yX4_read : MethodName := ⟨RX4, "read", "()I"⟩
abbrev cX4_readPrefix : ByteArray := prog_6_method_3_code
def yX4_readPrefix : MethodName := ⟨RX4, "readPrefix", "()Z"⟩
abbrev cX4_readRange : ByteArray := prog_6_method_4_code
def yX4_readRange : MethodName := ⟨RX4, "readRange", "()Z"⟩
abbrev cX4_readTargets : ByteArray := prog_6_method_5_code
def yX4_readTargets : MethodName := ⟨RX4, "readTargets", "()Z"⟩
abbrev cX4_readTarget : ByteArray := prog_6_method_6_code
def yX4_readTarget : MethodName := ⟨RX4, "readTarget", "()Z"⟩
abbrev cX4_readShadow : ByteArray := prog_6_method_7_code
def yX4_readShadow : MethodName := ⟨RX4, "readShadow", "()Z"⟩
abbrev cX4_readAttempts : ByteArray := prog_6_method_8_code
def yX4_readAttempts : MethodName := ⟨RX4, "readAttempts", "()Z"⟩
abbrev cX4_readSign : ByteArray := prog_6_method_9_code
def yX4_readSign : MethodName := ⟨RX4, "readSign", "(C)Z"⟩
abbrev cX4_readDigit : ByteArray := prog_6_method_10_code
def yX4_readDigit : MethodName := ⟨RX4, "readDigit", "(II)I"⟩
def RX5 : String := "MeshRouter$Service"
def TX5 : u_T := fun k => match k with
  | 0 => ("MeshRouter$Service", "policy", "I", false)
  | 1 => ("MeshRouter$Service", "failureLimit", "I", false)
  | 2 => ("MeshRouter$Service", "ejectionTime", "I", false)
  | 3 => ("MeshRouter$Service", "ejectionShare", "I", false)
  | 4 => ("MeshRouter$Service", "ratio", "I", false)
  | 5 => ("MeshRouter$Service", "tokens", "I", false)
  | 6 => ("MeshRouter$Service", "chosen", "I", false)
  | 7 => ("MeshRouter$Service", "answered", "I", false)
  | 8 => ("MeshRouter$Service", "spills", "[I", true)
  | _ => ("MeshRouter$Service", "kept", "[I", true)
def tyX5 : Nat → FieldType := fun k => match k with
  | 0 => .int
  | 1 => .int
  | 2 => .int
  | 3 => .int
  | 4 => .int
  | 5 => .int
  | 6 => .int
  | 7 => .int
  | 8 => .array .int
  | _ => .array .int
abbrev wsX50 : List Cond := u_ws RX5 TX5 10
theorem nmX5 : ∀ a, a < 10 → ∀ b, b < 10 → a ≠ b → (TX5 a).2.1 ≠ (TX5 b).2.1 := by decide +kernel
theorem tyX5_ok : ∀ k, k < 10 → parseFieldDescriptor (TX5 k).2.2.1 = some (tyX5 k) := by decide +kernel
abbrev cX5_init : ByteArray := prog_7_method_1_code
def yX5_init : MethodName := ⟨RX5, "<init>", "()V"⟩
abbrev cX5_copyFrom : ByteArray := prog_7_method_2_code
def yX5_copyFrom : MethodName := ⟨RX5, "copyFrom", "(LMeshRouter$Service;)V"⟩
abbrev cX5_earnTokens : ByteArray := prog_7_method_3_code
def yX5_earnTokens : MethodName := ⟨RX5, "earnTokens", "()V"⟩
abbrev cX5_staysNear : ByteArray := prog_7_method_4_code
def yX5_staysNear : MethodName := ⟨RX5, "staysNear", "(IIII)Z"⟩
def RX6 : String := "MeshRouter$Target"
def TX6 : u_T := fun k => match k with
  | 0 => ("MeshRouter$Weighted", "weight", "I", false)
  | 1 => ("MeshRouter$Weighted", "credit", "I", false)
  | 2 => ("MeshRouter$Weighted", "candidate", "Z", false)
  | 3 => ("MeshRouter$Target", "service", "I", false)
  | _ => ("MeshRouter$Target", "timesChosen", "I", false)
def tyX6 : Nat → FieldType := fun k => match k with
  | 0 => .int
  | 1 => .int
  | 2 => .boolean
  | 3 => .int
  | _ => .int
abbrev wsX60 : List Cond := u_ws RX6 TX6 5
theorem nmX6 : ∀ a, a < 5 → ∀ b, b < 5 → a ≠ b → (TX6 a).2.1 ≠ (TX6 b).2.1 := by decide +kernel
theorem tyX6_ok : ∀ k, k < 5 → parseFieldDescriptor (TX6 k).2.2.1 = some (tyX6 k) := by decide +kernel
abbrev cX6_init : ByteArray := prog_8_method_1_code
def yX6_init : MethodName := ⟨RX6, "<init>", "()V"⟩
abbrev cX6_begin : ByteArray := prog_8_method_2_code
def yX6_begin : MethodName := ⟨RX6, "begin", "(II)V"⟩
abbrev cX6_copyFrom : ByteArray := prog_8_method_3_code
def yX6_copyFrom : MethodName := ⟨RX6, "copyFrom", "(LMeshRouter$Target;)V"⟩
abbrev cX6_property : ByteArray := prog_8_method_4_code
def yX6_property : MethodName := ⟨RX6, "property", "(I)I"⟩
def RX7 : String := "MeshRouter$Text"
def TX7 : u_T := fun k => match k with
  | 0 => ("MeshRouter$Text", "signs", "[C", true)
  | _ => ("MeshRouter$Text", "length", "I", false)
def tyX7 : Nat → FieldType := fun k => match k with
  | 0 => .array .char
  | _ => .int
abbrev wsX70 : List Cond := u_ws RX7 TX7 2
theorem nmX7 : ∀ a, a < 2 → ∀ b, b < 2 → a ≠ b → (TX7 a).2.1 ≠ (TX7 b).2.1 := by decide +kernel
theorem tyX7_ok : ∀ k, k < 2 → parseFieldDescriptor (TX7 k).2.2.1 = some (tyX7 k) := by decide +kernel
abbrev cX7_init : ByteArray := prog_9_method_1_code
def yX7_init : MethodName := ⟨RX7, "<init>", "()V"⟩
abbrev cX7_clear : ByteArray := prog_9_method_2_code
def yX7_clear : MethodName := ⟨RX7, "clear", "()V"⟩
abbrev cX7_put : ByteArray := prog_9_method_3_code
def yX7_put : MethodName := ⟨RX7, "put", "(I)V"⟩
abbrev cX7_putDigit : ByteArray := prog_9_method_4_code
def yX7_putDigit : MethodName := ⟨RX7, "putDigit", "(I)V"⟩
abbrev cX7_putAll : ByteArray := prog_9_method_5_code
def yX7_putAll : MethodName := ⟨RX7, "putAll", "(LMeshRouter$Text;)V"⟩
abbrev cX7_signAt : ByteArray := prog_9_method_6_code
def yX7_signAt : MethodName := ⟨RX7, "signAt", "(I)I"⟩
abbrev cX7_isPath : ByteArray := prog_9_method_7_code
def yX7_isPath : MethodName := ⟨RX7, "isPath", "()Z"⟩
abbrev cX7_beginsWith : ByteArray := prog_9_method_8_code
def yX7_beginsWith : MethodName := ⟨RX7, "beginsWith", "(LMeshRouter$Text;)Z"⟩
def RX8 : String := "MeshRouter$Trail"
def TX8 : u_T := fun k => match k with
  | 0 => ("MeshRouter$Trail", "parts", "[[I", true)
  | _ => ("MeshRouter$Trail", "length", "I", false)
def tyX8 : Nat → FieldType := fun k => match k with
  | 0 => .array (.array .int)
  | _ => .int
abbrev wsX80 : List Cond := u_ws RX8 TX8 2
theorem nmX8 : ∀ a, a < 2 → ∀ b, b < 2 → a ≠ b → (TX8 a).2.1 ≠ (TX8 b).2.1 := by decide +kernel
theorem tyX8_ok : ∀ k, k < 2 → parseFieldDescriptor (TX8 k).2.2.1 = some (tyX8 k) := by decide +kernel
abbrev cX8_init : ByteArray := prog_10_method_1_code
def yX8_init : MethodName := ⟨RX8, "<init>", "()V"⟩
abbrev cX8_add : ByteArray := prog_10_method_2_code
def yX8_add : MethodName := ⟨RX8, "add", "(IZZZ)V"⟩
def RX9 : String := "MeshRouter$Weighted"
def TX9 : u_T := fun k => match k with
  | _ => ("", "", "", false)
def tyX9 : Nat → FieldType := fun k => match k with
  | _ => .int
abbrev wsX90 : List Cond := u_ws RX9 TX9 0
theorem nmX9 : ∀ a, a < 0 → ∀ b, b < 0 → a ≠ b → (TX9 a).2.1 ≠ (TX9 b).2.1 := by decide +kernel
theorem tyX9_ok : ∀ k, k < 0 → parseFieldDescriptor (TX9 k).2.2.1 = some (tyX9 k) := by decide +kernel
abbrev cX9_init : ByteArray := prog_11_method_1_code
def yX9_init : MethodName := ⟨RX9, "<init>", "()V"⟩
abbrev cX9_chooseByWeights : ByteArray := prog_11_method_2_code
def yX9_chooseByWeights : MethodName := ⟨RX9, "chooseByWeights", "([LMeshRouter$Weighted;I)I"⟩
def RX10 : String := "MeshRouter"
def TX10 : u_T := fun k => match k with
  | 0 => ("MeshRouter", "mesh", "LMeshRouter$Mesh;", true)
  | 1 => ("MeshRouter", "marked", "LMeshRouter$Mesh;", true)
  | 2 => ("MeshRouter", "saved", "LMeshRouter$Mesh;", true)
  | 3 => ("MeshRouter", "trial", "LMeshRouter$Mesh;", true)
  | 4 => ("MeshRouter", "recording", "LMeshRouter$Recording;", true)
  | 5 => ("MeshRouter", "typed", "LMeshRouter$Text;", true)
  | 6 => ("MeshRouter", "printout", "LMeshRouter$Text;", true)
  | 7 => ("MeshRouter", "reader", "LMeshRouter$RuleReader;", true)
  | _ => ("MeshRouter", "hasSaved", "Z", false)
def tyX10 : Nat → FieldType := fun k => match k with
  | 0 => .object "MeshRouter$Mesh"
  | 1 => .object "MeshRouter$Mesh"
  | 2 => .object "MeshRouter$Mesh"
  | 3 => .object "MeshRouter$Mesh"
  | 4 => .object "MeshRouter$Recording"
  | 5 => .object "MeshRouter$Text"
  | 6 => .object "MeshRouter$Text"
  | 7 => .object "MeshRouter$RuleReader"
  | _ => .boolean
abbrev wsX100 : List Cond := u_ws RX10 TX10 9
theorem nmX10 : ∀ a, a < 9 → ∀ b, b < 9 → a ≠ b → (TX10 a).2.1 ≠ (TX10 b).2.1 := by decide +kernel
theorem tyX10_ok : ∀ k, k < 9 → parseFieldDescriptor (TX10 k).2.2.1 = some (tyX10 k) := by decide +kernel
abbrev cX10_init : ByteArray := prog_1_method_1_code
def yX10_init : MethodName := ⟨RX10, "<init>", "()V"⟩
abbrev cX10_addBackend : ByteArray := prog_1_method_2_code
def yX10_addBackend : MethodName := ⟨RX10, "addBackend", "(III)I"⟩
abbrev cX10_setWeight : ByteArray := prog_1_method_3_code
def yX10_setWeight : MethodName := ⟨RX10, "setWeight", "(II)I"⟩
abbrev cX10_setPattern : ByteArray := prog_1_method_4_code
def yX10_setPattern : MethodName := ⟨RX10, "setPattern", "(II)I"⟩
abbrev cX10_configure : ByteArray := prog_1_method_5_code
def yX10_configure : MethodName := ⟨RX10, "configure", "(IIIIII)I"⟩
abbrev cX10_setZoneLimit : ByteArray := prog_1_method_6_code
def yX10_setZoneLimit : MethodName := ⟨RX10, "setZoneLimit", "(I)I"⟩
abbrev cX10_append : ByteArray := prog_1_method_7_code
def yX10_append : MethodName := ⟨RX10, "append", "(II)I"⟩
abbrev cX10_addRule : ByteArray := prog_1_method_8_code
def yX10_addRule : MethodName := ⟨RX10, "addRule", "()I"⟩
abbrev cX10_removeRule : ByteArray := prog_1_method_9_code
def yX10_removeRule : MethodName := ⟨RX10, "removeRule", "(I)I"⟩
abbrev cX10_moveRule : ByteArray := prog_1_method_10_code
def yX10_moveRule : MethodName := ⟨RX10, "moveRule", "(II)I"⟩
abbrev cX10_match : ByteArray := prog_1_method_11_code
def yX10_match : MethodName := ⟨RX10, "match", "(I)I"⟩
abbrev cX10_request : ByteArray := prog_1_method_12_code
def yX10_request : MethodName := ⟨RX10, "request", "(II)I"⟩
abbrev cX10_foresee : ByteArray := prog_1_method_13_code
def yX10_foresee : MethodName := ⟨RX10, "foresee", "(II)I"⟩
abbrev cX10_tick : ByteArray := prog_1_method_14_code
def yX10_tick : MethodName := ⟨RX10, "tick", "(I)I"⟩
abbrev cX10_backend : ByteArray := prog_1_method_15_code
def yX10_backend : MethodName := ⟨RX10, "backend", "(II)I"⟩
abbrev cX10_service : ByteArray := prog_1_method_16_code
def yX10_service : MethodName := ⟨RX10, "service", "(II)I"⟩
abbrev cX10_remembered : ByteArray := prog_1_method_17_code
def yX10_remembered : MethodName := ⟨RX10, "remembered", "(II)I"⟩
abbrev cX10_target : ByteArray := prog_1_method_18_code
def yX10_target : MethodName := ⟨RX10, "target", "(III)I"⟩
abbrev cX10_trace : ByteArray := prog_1_method_19_code
def yX10_trace : MethodName := ⟨RX10, "trace", "(II)I"⟩
abbrev cX10_count : ByteArray := prog_1_method_20_code
def yX10_count : MethodName := ⟨RX10, "count", "(I)I"⟩
abbrev cX10_print : ByteArray := prog_1_method_21_code
def yX10_print : MethodName := ⟨RX10, "print", "(I)I"⟩
abbrev cX10_printed : ByteArray := prog_1_method_22_code
def yX10_printed : MethodName := ⟨RX10, "printed", "(I)I"⟩
abbrev cX10_mark : ByteArray := prog_1_method_23_code
def yX10_mark : MethodName := ⟨RX10, "mark", "()I"⟩
abbrev cX10_play : ByteArray := prog_1_method_24_code
def yX10_play : MethodName := ⟨RX10, "play", "(I)I"⟩
abbrev cX10_answeredIf : ByteArray := prog_1_method_25_code
def yX10_answeredIf : MethodName := ⟨RX10, "answeredIf", "(I)I"⟩
abbrev cX10_save : ByteArray := prog_1_method_26_code
def yX10_save : MethodName := ⟨RX10, "save", "()I"⟩
abbrev cX10_restore : ByteArray := prog_1_method_27_code
def yX10_restore : MethodName := ⟨RX10, "restore", "()I"⟩
abbrev cX10_requestError : ByteArray := prog_1_method_28_code
def yX10_requestError : MethodName := ⟨RX10, "requestError", "(II)I"⟩
abbrev cX10_playError : ByteArray := prog_1_method_29_code
def yX10_playError : MethodName := ⟨RX10, "playError", "(I)I"⟩
abbrev cX10_playAgain : ByteArray := prog_1_method_30_code
def yX10_playAgain : MethodName := ⟨RX10, "playAgain", "(I)V"⟩
abbrev cX10_isWithin : ByteArray := prog_1_method_31_code
def yX10_isWithin : MethodName := ⟨RX10, "isWithin", "(III)Z"⟩
abbrev cX10_isService : ByteArray := prog_1_method_32_code
def yX10_isService : MethodName := ⟨RX10, "isService", "(I)Z"⟩
abbrev cX10_isZone : ByteArray := prog_1_method_33_code
def yX10_isZone : MethodName := ⟨RX10, "isZone", "(I)Z"⟩
abbrev cX10_isHeader : ByteArray := prog_1_method_34_code
def yX10_isHeader : MethodName := ⟨RX10, "isHeader", "(I)Z"⟩
abbrev cX10_isPathSign : ByteArray := prog_1_method_35_code
def yX10_isPathSign : MethodName := ⟨RX10, "isPathSign", "(I)Z"⟩
abbrev cX10_succeeds : ByteArray := prog_1_method_36_code
def yX10_succeeds : MethodName := ⟨RX10, "succeeds", "(II)Z"⟩
def RX11 : String := "MeshRouterModel"
def TX11 : u_T := fun k => match k with
  | 0 => ("MeshRouterModel", "v", "[I", true)
  | 1 => ("MeshRouterModel", "saved", "[I", true)
  | 2 => ("MeshRouterModel", "marked", "[I", true)
  | 3 => ("MeshRouterModel", "kept", "[I", true)
  | 4 => ("MeshRouterModel", "isSaved", "Z", false)
  | 5 => ("MeshRouterModel", "isMarked", "Z", false)
  | 6 => ("MeshRouterModel", "text", "[I", true)
  | 7 => ("MeshRouterModel", "textN", "I", false)
  | 8 => ("MeshRouterModel", "record", "[I", true)
  | 9 => ("MeshRouterModel", "path", "[I", true)
  | 10 => ("MeshRouterModel", "records", "I", false)
  | 11 => ("MeshRouterModel", "printed", "[I", true)
  | 12 => ("MeshRouterModel", "printedN", "I", false)
  | 13 => ("MeshRouterModel", "at", "I", false)
  | 14 => ("MeshRouterModel", "isFaulty", "Z", false)
  | 15 => ("MeshRouterModel", "made", "[I", true)
  | 16 => ("MeshRouterModel", "under", "I", false)
  | _ => ("MeshRouterModel", "textKept", "[I", true)
def tyX11 : Nat → FieldType := fun k => match k with
  | 0 => .array .int
  | 1 => .array .int
  | 2 => .array .int
  | 3 => .array .int
  | 4 => .boolean
  | 5 => .boolean
  | 6 => .array .int
  | 7 => .int
  | 8 => .array .int
  | 9 => .array .int
  | 10 => .int
  | 11 => .array .int
  | 12 => .int
  | 13 => .int
  | 14 => .boolean
  | 15 => .array .int
  | 16 => .int
  | _ => .array .int
abbrev wsX110 : List Cond := u_ws RX11 TX11 18
theorem nmX11 : ∀ a, a < 18 → ∀ b, b < 18 → a ≠ b → (TX11 a).2.1 ≠ (TX11 b).2.1 := by decide +kernel
theorem tyX11_ok : ∀ k, k < 18 → parseFieldDescriptor (TX11 k).2.2.1 = some (tyX11 k) := by decide +kernel
abbrev cX11_init : ByteArray := prog_13_method_1_code
def yX11_init : MethodName := ⟨RX11, "<init>", "()V"⟩
abbrev cX11_isIn : ByteArray := prog_13_method_2_code
def yX11_isIn : MethodName := ⟨RX11, "isIn", "(III)Z"⟩
abbrev cX11_copies : ByteArray := prog_13_method_3_code
def yX11_copies : MethodName := ⟨RX11, "copies", "([I[I)V"⟩
abbrev cX11_of : ByteArray := prog_13_method_4_code
def yX11_of : MethodName := ⟨RX11, "of", "(II)I"⟩
abbrev cX11_sets : ByteArray := prog_13_method_5_code
def yX11_sets : MethodName := ⟨RX11, "sets", "(III)V"⟩
abbrev cX11_isBackend : ByteArray := prog_13_method_6_code
def yX11_isBackend : MethodName := ⟨RX11, "isBackend", "(I)Z"⟩
abbrev cX11_changes : ByteArray := prog_13_method_7_code
def yX11_changes : MethodName := ⟨RX11, "changes", "()V"⟩
abbrev cX11_addBackend : ByteArray := prog_13_method_8_code
def yX11_addBackend : MethodName := ⟨RX11, "addBackend", "(III)I"⟩
abbrev cX11_put : ByteArray := prog_13_method_9_code
def yX11_put : MethodName := ⟨RX11, "put", "(IIII)I"⟩
abbrev cX11_setWeight : ByteArray := prog_13_method_10_code
def yX11_setWeight : MethodName := ⟨RX11, "setWeight", "(II)I"⟩
abbrev cX11_setPattern : ByteArray := prog_13_method_11_code
def yX11_setPattern : MethodName := ⟨RX11, "setPattern", "(II)I"⟩
abbrev cX11_configure : ByteArray := prog_13_method_12_code
def yX11_configure : MethodName := ⟨RX11, "configure", "(IIIIII)I"⟩
abbrev cX11_setZoneLimit : ByteArray := prog_13_method_13_code
def yX11_setZoneLimit : MethodName := ⟨RX11, "setZoneLimit", "(I)I"⟩
abbrev cX11_append : ByteArray := prog_13_method_14_code
def yX11_append : MethodName := ⟨RX11, "append", "(II)I"⟩
abbrev cX11_isOfPath : ByteArray := prog_13_method_15_code
def yX11_isOfPath : MethodName := ⟨RX11, "isOfPath", "(I)Z"⟩
abbrev cX11_isPath : ByteArray := prog_13_method_16_code
def yX11_isPath : MethodName := ⟨RX11, "isPath", "()Z"⟩
abbrev cX11_here : ByteArray := prog_13_method_17_code
def yX11_here : MethodName := ⟨RX11, "here", "()I"⟩
abbrev cX11_sign : ByteArray := prog_13_method_18_code
def yX11_sign : MethodName := ⟨RX11, "sign", "(I)V"⟩
abbrev cX11_digit : ByteArray := prog_13_method_19_code
def yX11_digit : MethodName := ⟨RX11, "digit", "(II)I"⟩
abbrev cX11_target : ByteArray := prog_13_method_20_code
def yX11_target : MethodName := ⟨RX11, "target", "()V"⟩
abbrev cX11_reads : ByteArray := prog_13_method_21_code
def yX11_reads : MethodName := ⟨RX11, "reads", "()V"⟩
abbrev cX11_addRule : ByteArray := prog_13_method_22_code
def yX11_addRule : MethodName := ⟨RX11, "addRule", "()I"⟩
abbrev cX11_isRule : ByteArray := prog_13_method_23_code
def yX11_isRule : MethodName := ⟨RX11, "isRule", "(I)Z"⟩
abbrev cX11_removeRule : ByteArray := prog_13_method_24_code
def yX11_removeRule : MethodName := ⟨RX11, "removeRule", "(I)I"⟩
abbrev cX11_swaps : ByteArray := prog_13_method_25_code
def yX11_swaps : MethodName := ⟨RX11, "swaps", "(I)V"⟩
abbrev cX11_moveRule : ByteArray := prog_13_method_26_code
def yX11_moveRule : MethodName := ⟨RX11, "moveRule", "(II)I"⟩
abbrev cX11_fits : ByteArray := prog_13_method_27_code
def yX11_fits : MethodName := ⟨RX11, "fits", "(II)Z"⟩
abbrev cX11_ruleOf : ByteArray := prog_13_method_28_code
def yX11_ruleOf : MethodName := ⟨RX11, "ruleOf", "(I)I"⟩
abbrev cX11_match : ByteArray := prog_13_method_29_code
def yX11_match : MethodName := ⟨RX11, "match", "(I)I"⟩
abbrev cX11_isMember : ByteArray := prog_13_method_30_code
def yX11_isMember : MethodName := ⟨RX11, "isMember", "(II)Z"⟩
abbrev cX11_isAvailable : ByteArray := prog_13_method_31_code
def yX11_isAvailable : MethodName := ⟨RX11, "isAvailable", "(II)Z"⟩
abbrev cX11_availables : ByteArray := prog_13_method_32_code
def yX11_availables : MethodName := ⟨RX11, "availables", "(I)I"⟩
abbrev cX11_choosesTarget : ByteArray := prog_13_method_33_code
def yX11_choosesTarget : MethodName := ⟨RX11, "choosesTarget", "(I)I"⟩
abbrev cX11_byWeights : ByteArray := prog_13_method_34_code
def yX11_byWeights : MethodName := ⟨RX11, "byWeights", "(I)I"⟩
abbrev cX11_leastUsed : ByteArray := prog_13_method_35_code
def yX11_leastUsed : MethodName := ⟨RX11, "leastUsed", "(I)I"⟩
abbrev cX11_weights : ByteArray := prog_13_method_36_code
def yX11_weights : MethodName := ⟨RX11, "weights", "(I)I"⟩
abbrev cX11_narrowed : ByteArray := prog_13_method_37_code
def yX11_narrowed : MethodName := ⟨RX11, "narrowed", "(III)I"⟩
abbrev cX11_picks : ByteArray := prog_13_method_38_code
def yX11_picks : MethodName := ⟨RX11, "picks", "(IIII)I"⟩
abbrev cX11_ejects : ByteArray := prog_13_method_39_code
def yX11_ejects : MethodName := ⟨RX11, "ejects", "(II)V"⟩
abbrev cX11_tries : ByteArray := prog_13_method_40_code
def yX11_tries : MethodName := ⟨RX11, "tries", "(III)Z"⟩
abbrev cX11_mirrors : ByteArray := prog_13_method_41_code
def yX11_mirrors : MethodName := ⟨RX11, "mirrors", "(I)V"⟩
abbrev cX11_serves : ByteArray := prog_13_method_42_code
def yX11_serves : MethodName := ⟨RX11, "serves", "(IIII)I"⟩
abbrev cX11_answers : ByteArray := prog_13_method_43_code
def yX11_answers : MethodName := ⟨RX11, "answers", "(II)I"⟩
abbrev cX11_refuses : ByteArray := prog_13_method_44_code
def yX11_refuses : MethodName := ⟨RX11, "refuses", "(II)I"⟩
abbrev cX11_request : ByteArray := prog_13_method_45_code
def yX11_request : MethodName := ⟨RX11, "request", "(II)I"⟩
abbrev cX11_foresee : ByteArray := prog_13_method_46_code
def yX11_foresee : MethodName := ⟨RX11, "foresee", "(II)I"⟩
abbrev cX11_ticks : ByteArray := prog_13_method_47_code
def yX11_ticks : MethodName := ⟨RX11, "ticks", "()V"⟩
abbrev cX11_tick : ByteArray := prog_13_method_48_code
def yX11_tick : MethodName := ⟨RX11, "tick", "(I)I"⟩
abbrev cX11_backend : ByteArray := prog_13_method_49_code
def yX11_backend : MethodName := ⟨RX11, "backend", "(II)I"⟩
abbrev cX11_members : ByteArray := prog_13_method_50_code
def yX11_members : MethodName := ⟨RX11, "members", "(IZ)I"⟩
abbrev cX11_service : ByteArray := prog_13_method_51_code
def yX11_service : MethodName := ⟨RX11, "service", "(II)I"⟩
abbrev cX11_remembered : ByteArray := prog_13_method_52_code
def yX11_remembered : MethodName := ⟨RX11, "remembered", "(II)I"⟩
abbrev cX11_target_ : ByteArray := prog_13_method_53_code
def yX11_target_ : MethodName := ⟨RX11, "target", "(III)I"⟩
abbrev cX11_trace : ByteArray := prog_13_method_54_code
def yX11_trace : MethodName := ⟨RX11, "trace", "(II)I"⟩
abbrev cX11_count : ByteArray := prog_13_method_55_code
def yX11_count : MethodName := ⟨RX11, "count", "(I)I"⟩
abbrev cX11_prints : ByteArray := prog_13_method_56_code
def yX11_prints : MethodName := ⟨RX11, "prints", "(I)V"⟩
abbrev cX11_printsTwo : ByteArray := prog_13_method_57_code
def yX11_printsTwo : MethodName := ⟨RX11, "printsTwo", "(II)V"⟩
abbrev cX11_print : ByteArray := prog_13_method_58_code
def yX11_print : MethodName := ⟨RX11, "print", "(I)I"⟩
abbrev cX11_printed : ByteArray := prog_13_method_59_code
def yX11_printed : MethodName := ⟨RX11, "printed", "(I)I"⟩
abbrev cX11_mark : ByteArray := prog_13_method_60_code
def yX11_mark : MethodName := ⟨RX11, "mark", "()I"⟩
abbrev cX11_plays : ByteArray := prog_13_method_61_code
def yX11_plays : MethodName := ⟨RX11, "plays", "(IZ)I"⟩
abbrev cX11_play : ByteArray := prog_13_method_62_code
def yX11_play : MethodName := ⟨RX11, "play", "(I)I"⟩
abbrev cX11_answeredIf : ByteArray := prog_13_method_63_code
def yX11_answeredIf : MethodName := ⟨RX11, "answeredIf", "(I)I"⟩
abbrev cX11_save : ByteArray := prog_13_method_64_code
def yX11_save : MethodName := ⟨RX11, "save", "()I"⟩
abbrev cX11_restore : ByteArray := prog_13_method_65_code
def yX11_restore : MethodName := ⟨RX11, "restore", "()I"⟩
def RJ9 : String := "java/lang/Math"
def TJ9 : u_T := fun k => match k with
  | _ => ("", "", "", false)
def tyJ9 : Nat → FieldType := fun k => match k with
  | _ => .int
abbrev wsJ90 : List Cond := u_ws RJ9 TJ9 0
theorem nmJ9 : ∀ a, a < 0 → ∀ b, b < 0 → a ≠ b → (TJ9 a).2.1 ≠ (TJ9 b).2.1 := by decide +kernel
theorem tyJ9_ok : ∀ k, k < 0 → parseFieldDescriptor (TJ9 k).2.2.1 = some (tyJ9 k) := by decide +kernel
abbrev cJ9_abs_0f7a4 : ByteArray := prog_14_method_59_code
def yJ9_abs_0f7a4 : MethodName := ⟨RJ9, "abs", "(I)I"⟩
abbrev cJ9_min_7cf53 : ByteArray := prog_14_method_69_code
def yJ9_min_7cf53 : MethodName := ⟨RJ9, "min", "(II)I"⟩
def RL : String := "MeshRouterLaw"
abbrev cL_law : ByteArray := code
def yL_law : MethodName := ⟨RL, "law", "([I)Z"⟩
abbrev vwCl : List vw_C := [(RX0, TX0, 14), (RX1, TX1, 16), (RX2, TX2, 7), (RX3, TX3, 7), (RX4, TX4, 3), (RX5, TX5, 10), (RX6, TX6, 5), (RX7, TX7, 2), (RX8, TX8, 2), (RX10, TX10, 9), (RX11, TX11, 18)]
end
section
theorem dX0_init_0 : decode cX0_init 0 = .ok (.aload_n 0, 1) := by decide +kernel
theorem dX0_init_1 : decode cX0_init 1 = .ok (.invokespecial 3, 3) := by decide +kernel
theorem dX0_init_4 : decode cX0_init 4 = .ok (.return_, 1) := by decide +kernel
theorem dX0_begin_0 : decode cX0_begin 0 = .ok (.aload_n 0, 1) := by decide +kernel
theorem dX0_begin_1 : decode cX0_begin 1 = .ok (.iload_n 1, 1) := by decide +kernel
theorem dX0_begin_2 : decode cX0_begin 2 = .ok (.putfield 9, 3) := by decide +kernel
theorem dX0_begin_5 : decode cX0_begin 5 = .ok (.aload_n 0, 1) := by decide +kernel
theorem dX0_begin_6 : decode cX0_begin 6 = .ok (.iload_n 2, 1) := by decide +kernel
theorem dX0_begin_7 : decode cX0_begin 7 = .ok (.putfield 15, 3) := by decide +kernel
theorem dX0_begin_10 : decode cX0_begin 10 = .ok (.aload_n 0, 1) := by decide +kernel
theorem dX0_begin_11 : decode cX0_begin 11 = .ok (.iload_n 3, 1) := by decide +kernel
theorem dX0_begin_12 : decode cX0_begin 12 = .ok (.putfield 18, 3) := by decide +kernel
theorem dX0_begin_15 : decode cX0_begin 15 = .ok (.aload_n 0, 1) := by decide +kernel
theorem dX0_begin_16 : decode cX0_begin 16 = .ok (.iconst 0, 1) := by decide +kernel
theorem dX0_begin_17 : decode cX0_begin 17 = .ok (.putfield 21, 3) := by decide +kernel
theorem dX0_begin_20 : decode cX0_begin 20 = .ok (.aload_n 0, 1) := by decide +kernel
theorem dX0_begin_21 : decode cX0_begin 21 = .ok (.sipush 255, 3) := by decide +kernel
theorem dX0_begin_24 : decode cX0_begin 24 = .ok (.putfield 24, 3) := by decide +kernel
theorem dX0_begin_27 : decode cX0_begin 27 = .ok (.aload_n 0, 1) := by decide +kernel
theorem dX0_begin_28 : decode cX0_begin 28 = .ok (.iconst 0, 1) := by decide +kernel
theorem dX0_begin_29 : decode cX0_begin 29 = .ok (.putfield 27, 3) := by decide +kernel
theorem dX0_begin_32 : decode cX0_begin 32 = .ok (.aload_n 0, 1) := by decide +kernel
theorem dX0_begin_33 : decode cX0_begin 33 = .ok (.iconst 0, 1) := by decide +kernel
theorem dX0_begin_34 : decode cX0_begin 34 = .ok (.putfield 30, 3) := by decide +kernel
theorem dX0_begin_37 : decode cX0_begin 37 = .ok (.aload_n 0, 1) := by decide +kernel
theorem dX0_begin_38 : decode cX0_begin 38 = .ok (.iconst 0, 1) := by decide +kernel
theorem dX0_begin_39 : decode cX0_begin 39 = .ok (.putfield 33, 3) := by decide +kernel
theorem dX0_begin_42 : decode cX0_begin 42 = .ok (.aload_n 0, 1) := by decide +kernel
theorem dX0_begin_43 : decode cX0_begin 43 = .ok (.iconst 0, 1) := by decide +kernel
theorem dX0_begin_44 : decode cX0_begin 44 = .ok (.putfield 36, 3) := by decide +kernel
theorem dX0_begin_47 : decode cX0_begin 47 = .ok (.aload_n 0, 1) := by decide +kernel
theorem dX0_begin_48 : decode cX0_begin 48 = .ok (.iconst 0, 1) := by decide +kernel
theorem dX0_begin_49 : decode cX0_begin 49 = .ok (.putfield 39, 3) := by decide +kernel
theorem dX0_begin_52 : decode cX0_begin 52 = .ok (.aload_n 0, 1) := by decide +kernel
theorem dX0_begin_53 : decode cX0_begin 53 = .ok (.iconst 0, 1) := by decide +kernel
theorem dX0_begin_54 : decode cX0_begin 54 = .ok (.putfield 42, 3) := by decide +kernel
theorem dX0_begin_57 : decode cX0_begin 57 = .ok (.aload_n 0, 1) := by decide +kernel
theorem dX0_begin_58 : decode cX0_begin 58 = .ok (.iconst 0, 1) := by decide +kernel
theorem dX0_begin_59 : decode cX0_begin 59 = .ok (.putfield 45, 3) := by decide +kernel
theorem dX0_begin_62 : decode cX0_begin 62 = .ok (.return_, 1) := by decide +kernel
theorem dX0_copyFrom_0 : decode cX0_copyFrom 0 = .ok (.aload_n 0, 1) := by decide +kernel
theorem dX0_copyFrom_1 : decode cX0_copyFrom 1 = .ok (.aload_n 1, 1) := by decide +kernel
theorem dX0_copyFrom_2 : decode cX0_copyFrom 2 = .ok (.getfield 9, 3) := by decide +kernel
theorem dX0_copyFrom_5 : decode cX0_copyFrom 5 = .ok (.putfield 9, 3) := by decide +kernel
theorem dX0_copyFrom_8 : decode cX0_copyFrom 8 = .ok (.aload_n 0, 1) := by decide +kernel
theorem dX0_copyFrom_9 : decode cX0_copyFrom 9 = .ok (.aload_n 1, 1) := by decide +kernel
theorem dX0_copyFrom_10 : decode cX0_copyFrom 10 = .ok (.getfield 15, 3) := by decide +kernel
theorem dX0_copyFrom_13 : decode cX0_copyFrom 13 = .ok (.putfield 15, 3) := by decide +kernel
theorem dX0_copyFrom_16 : decode cX0_copyFrom 16 = .ok (.aload_n 0, 1) := by decide +kernel
theorem dX0_copyFrom_17 : decode cX0_copyFrom 17 = .ok (.aload_n 1, 1) := by decide +kernel
theorem dX0_copyFrom_18 : decode cX0_copyFrom 18 = .ok (.getfield 18, 3) := by decide +kernel
theorem dX0_copyFrom_21 : decode cX0_copyFrom 21 = .ok (.putfield 18, 3) := by decide +kernel
theorem dX0_copyFrom_24 : decode cX0_copyFrom 24 = .ok (.aload_n 0, 1) := by decide +kernel
theorem dX0_copyFrom_25 : decode cX0_copyFrom 25 = .ok (.aload_n 1, 1) := by decide +kernel
theorem dX0_copyFrom_26 : decode cX0_copyFrom 26 = .ok (.getfield 21, 3) := by decide +kernel
theorem dX0_copyFrom_29 : decode cX0_copyFrom 29 = .ok (.putfield 21, 3) := by decide +kernel
theorem dX0_copyFrom_32 : decode cX0_copyFrom 32 = .ok (.aload_n 0, 1) := by decide +kernel
theorem dX0_copyFrom_33 : decode cX0_copyFrom 33 = .ok (.aload_n 1, 1) := by decide +kernel
theorem dX0_copyFrom_34 : decode cX0_copyFrom 34 = .ok (.getfield 24, 3) := by decide +kernel
theorem dX0_copyFrom_37 : decode cX0_copyFrom 37 = .ok (.putfield 24, 3) := by decide +kernel
theorem dX0_copyFrom_40 : decode cX0_copyFrom 40 = .ok (.aload_n 0, 1) := by decide +kernel
theorem dX0_copyFrom_41 : decode cX0_copyFrom 41 = .ok (.aload_n 1, 1) := by decide +kernel
theorem dX0_copyFrom_42 : decode cX0_copyFrom 42 = .ok (.getfield 27, 3) := by decide +kernel
theorem dX0_copyFrom_45 : decode cX0_copyFrom 45 = .ok (.putfield 27, 3) := by decide +kernel
theorem dX0_copyFrom_48 : decode cX0_copyFrom 48 = .ok (.aload_n 0, 1) := by decide +kernel
theorem dX0_copyFrom_49 : decode cX0_copyFrom 49 = .ok (.aload_n 1, 1) := by decide +kernel
theorem dX0_copyFrom_50 : decode cX0_copyFrom 50 = .ok (.getfield 30, 3) := by decide +kernel
theorem dX0_copyFrom_53 : decode cX0_copyFrom 53 = .ok (.putfield 30, 3) := by decide +kernel
theorem dX0_copyFrom_56 : decode cX0_copyFrom 56 = .ok (.aload_n 0, 1) := by decide +kernel
theorem dX0_copyFrom_57 : decode cX0_copyFrom 57 = .ok (.aload_n 1, 1) := by decide +kernel
theorem dX0_copyFrom_58 : decode cX0_copyFrom 58 = .ok (.getfield 33, 3) := by decide +kernel
theorem dX0_copyFrom_61 : decode cX0_copyFrom 61 = .ok (.putfield 33, 3) := by decide +kernel
theorem dX0_copyFrom_64 : decode cX0_copyFrom 64 = .ok (.aload_n 0, 1) := by decide +kernel
theorem dX0_copyFrom_65 : decode cX0_copyFrom 65 = .ok (.aload_n 1, 1) := by decide +kernel
theorem dX0_copyFrom_66 : decode cX0_copyFrom 66 = .ok (.getfield 36, 3) := by decide +kernel
theorem dX0_copyFrom_69 : decode cX0_copyFrom 69 = .ok (.putfield 36, 3) := by decide +kernel
theorem dX0_copyFrom_72 : decode cX0_copyFrom 72 = .ok (.aload_n 0, 1) := by decide +kernel
theorem dX0_copyFrom_73 : decode cX0_copyFrom 73 = .ok (.aload_n 1, 1) := by decide +kernel
theorem dX0_copyFrom_74 : decode cX0_copyFrom 74 = .ok (.getfield 39, 3) := by decide +kernel
theorem dX0_copyFrom_77 : decode cX0_copyFrom 77 = .ok (.putfield 39, 3) := by decide +kernel
theorem dX0_copyFrom_80 : decode cX0_copyFrom 80 = .ok (.aload_n 0, 1) := by decide +kernel
theorem dX0_copyFrom_81 : decode cX0_copyFrom 81 = .ok (.aload_n 1, 1) := by decide +kernel
theorem dX0_copyFrom_82 : decode cX0_copyFrom 82 = .ok (.getfield 42, 3) := by decide +kernel
theorem dX0_copyFrom_85 : decode cX0_copyFrom 85 = .ok (.putfield 42, 3) := by decide +kernel
theorem dX0_copyFrom_88 : decode cX0_copyFrom 88 = .ok (.aload_n 0, 1) := by decide +kernel
theorem dX0_copyFrom_89 : decode cX0_copyFrom 89 = .ok (.aload_n 1, 1) := by decide +kernel
theorem dX0_copyFrom_90 : decode cX0_copyFrom 90 = .ok (.getfield 45, 3) := by decide +kernel
theorem dX0_copyFrom_93 : decode cX0_copyFrom 93 = .ok (.putfield 45, 3) := by decide +kernel
theorem dX0_copyFrom_96 : decode cX0_copyFrom 96 = .ok (.return_, 1) := by decide +kernel
theorem dX0_isMemberOf_0 : decode cX0_isMemberOf 0 = .ok (.aload_n 0, 1) := by decide +kernel
theorem dX0_isMemberOf_1 : decode cX0_isMemberOf 1 = .ok (.getfield 9, 3) := by decide +kernel
theorem dX0_isMemberOf_4 : decode cX0_isMemberOf 4 = .ok (.iload_n 1, 1) := by decide +kernel
theorem dX0_isMemberOf_5 : decode cX0_isMemberOf 5 = .ok (.if_icmp .ne 14, 3) := by decide +kernel
theorem dX0_isMemberOf_8 : decode cX0_isMemberOf 8 = .ok (.aload_n 0, 1) := by decide +kernel
theorem dX0_isMemberOf_9 : decode cX0_isMemberOf 9 = .ok (.getfield 18, 3) := by decide +kernel
theorem dX0_isMemberOf_12 : decode cX0_isMemberOf 12 = .ok (.ifCond .le 7, 3) := by decide +kernel
theorem dX0_isMemberOf_15 : decode cX0_isMemberOf 15 = .ok (.iconst 1, 1) := by decide +kernel
theorem dX0_isMemberOf_16 : decode cX0_isMemberOf 16 = .ok (.goto 4, 3) := by decide +kernel
theorem dX0_isMemberOf_19 : decode cX0_isMemberOf 19 = .ok (.iconst 0, 1) := by decide +kernel
theorem dX0_isMemberOf_20 : decode cX0_isMemberOf 20 = .ok (.ireturn, 1) := by decide +kernel
theorem dX0_isAvailableIn_0 : decode cX0_isAvailableIn 0 = .ok (.aload_n 0, 1) := by decide +kernel
theorem dX0_isAvailableIn_1 : decode cX0_isAvailableIn 1 = .ok (.getfield 9, 3) := by decide +kernel
theorem dX0_isAvailableIn_4 : decode cX0_isAvailableIn 4 = .ok (.iload_n 1, 1) := by decide +kernel
theorem dX0_isAvailableIn_5 : decode cX0_isAvailableIn 5 = .ok (.if_icmp .ne 21, 3) := by decide +kernel
theorem dX0_isAvailableIn_8 : decode cX0_isAvailableIn 8 = .ok (.aload_n 0, 1) := by decide +kernel
theorem dX0_isAvailableIn_9 : decode cX0_isAvailableIn 9 = .ok (.getfield 18, 3) := by decide +kernel
theorem dX0_isAvailableIn_12 : decode cX0_isAvailableIn 12 = .ok (.ifCond .le 14, 3) := by decide +kernel
theorem dX0_isAvailableIn_15 : decode cX0_isAvailableIn 15 = .ok (.aload_n 0, 1) := by decide +kernel
theorem dX0_isAvailableIn_16 : decode cX0_isAvailableIn 16 = .ok (.getfield 39, 3) := by decide +kernel
theorem dX0_isAvailableIn_19 : decode cX0_isAvailableIn 19 = .ok (.ifCond .ne 7, 3) := by decide +kernel
theorem dX0_isAvailableIn_22 : decode cX0_isAvailableIn 22 = .ok (.iconst 1, 1) := by decide +kernel
theorem dX0_isAvailableIn_23 : decode cX0_isAvailableIn 23 = .ok (.goto 4, 3) := by decide +kernel
theorem dX0_isAvailableIn_26 : decode cX0_isAvailableIn 26 = .ok (.iconst 0, 1) := by decide +kernel
theorem dX0_isAvailableIn_27 : decode cX0_isAvailableIn 27 = .ok (.ireturn, 1) := by decide +kernel
theorem dX0_isLessUsedThan_0 : decode cX0_isLessUsedThan 0 = .ok (.aload_n 0, 1) := by decide +kernel
theorem dX0_isLessUsedThan_1 : decode cX0_isLessUsedThan 1 = .ok (.getfield 27, 3) := by decide +kernel
theorem dX0_isLessUsedThan_4 : decode cX0_isLessUsedThan 4 = .ok (.aload_n 1, 1) := by decide +kernel
theorem dX0_isLessUsedThan_5 : decode cX0_isLessUsedThan 5 = .ok (.getfield 18, 3) := by decide +kernel
theorem dX0_isLessUsedThan_8 : decode cX0_isLessUsedThan 8 = .ok (.imul, 1) := by decide +kernel
theorem dX0_isLessUsedThan_9 : decode cX0_isLessUsedThan 9 = .ok (.aload_n 1, 1) := by decide +kernel
theorem dX0_isLessUsedThan_10 : decode cX0_isLessUsedThan 10 = .ok (.getfield 27, 3) := by decide +kernel
theorem dX0_isLessUsedThan_13 : decode cX0_isLessUsedThan 13 = .ok (.aload_n 0, 1) := by decide +kernel
theorem dX0_isLessUsedThan_14 : decode cX0_isLessUsedThan 14 = .ok (.getfield 18, 3) := by decide +kernel
theorem dX0_isLessUsedThan_17 : decode cX0_isLessUsedThan 17 = .ok (.imul, 1) := by decide +kernel
theorem dX0_isLessUsedThan_18 : decode cX0_isLessUsedThan 18 = .ok (.if_icmp .ge 7, 3) := by decide +kernel
theorem dX0_isLessUsedThan_21 : decode cX0_isLessUsedThan 21 = .ok (.iconst 1, 1) := by decide +kernel
theorem dX0_isLessUsedThan_22 : decode cX0_isLessUsedThan 22 = .ok (.goto 4, 3) := by decide +kernel
theorem dX0_isLessUsedThan_25 : decode cX0_isLessUsedThan 25 = .ok (.iconst 0, 1) := by decide +kernel
theorem dX0_isLessUsedThan_26 : decode cX0_isLessUsedThan 26 = .ok (.ireturn, 1) := by decide +kernel
theorem dX0_attempt_0 : decode cX0_attempt 0 = .ok (.aload_n 0, 1) := by decide +kernel
theorem dX0_attempt_1 : decode cX0_attempt 1 = .ok (.getfield 24, 3) := by decide +kernel
theorem dX0_attempt_4 : decode cX0_attempt 4 = .ok (.aload_n 0, 1) := by decide +kernel
theorem dX0_attempt_5 : decode cX0_attempt 5 = .ok (.getfield 27, 3) := by decide +kernel
theorem dX0_attempt_8 : decode cX0_attempt 8 = .ok (.invokestatic 48, 3) := by decide +kernel
theorem dX0_attempt_11 : decode cX0_attempt 11 = .ok (.istore_n 1, 1) := by decide +kernel
theorem dX0_attempt_12 : decode cX0_attempt 12 = .ok (.aload_n 0, 1) := by decide +kernel
theorem dX0_attempt_13 : decode cX0_attempt 13 = .ok (.iconst 1, 1) := by decide +kernel
theorem dX0_attempt_14 : decode cX0_attempt 14 = .ok (.putfield 52, 3) := by decide +kernel
theorem dX0_attempt_17 : decode cX0_attempt 17 = .ok (.aload_n 0, 1) := by decide +kernel
theorem dX0_attempt_18 : decode cX0_attempt 18 = .ok (.dup, 1) := by decide +kernel
theorem dX0_attempt_19 : decode cX0_attempt 19 = .ok (.getfield 27, 3) := by decide +kernel
theorem dX0_attempt_22 : decode cX0_attempt 22 = .ok (.iconst 1, 1) := by decide +kernel
theorem dX0_attempt_23 : decode cX0_attempt 23 = .ok (.iadd, 1) := by decide +kernel
theorem dX0_attempt_24 : decode cX0_attempt 24 = .ok (.putfield 27, 3) := by decide +kernel
theorem dX0_attempt_27 : decode cX0_attempt 27 = .ok (.iload_n 1, 1) := by decide +kernel
theorem dX0_attempt_28 : decode cX0_attempt 28 = .ok (.ifCond .eq 21, 3) := by decide +kernel
theorem dX0_attempt_31 : decode cX0_attempt 31 = .ok (.aload_n 0, 1) := by decide +kernel
theorem dX0_attempt_32 : decode cX0_attempt 32 = .ok (.dup, 1) := by decide +kernel
theorem dX0_attempt_33 : decode cX0_attempt 33 = .ok (.getfield 30, 3) := by decide +kernel
theorem dX0_attempt_36 : decode cX0_attempt 36 = .ok (.iconst 1, 1) := by decide +kernel
theorem dX0_attempt_37 : decode cX0_attempt 37 = .ok (.iadd, 1) := by decide +kernel
theorem dX0_attempt_38 : decode cX0_attempt 38 = .ok (.putfield 30, 3) := by decide +kernel
theorem dX0_attempt_41 : decode cX0_attempt 41 = .ok (.aload_n 0, 1) := by decide +kernel
theorem dX0_attempt_42 : decode cX0_attempt 42 = .ok (.iconst 0, 1) := by decide +kernel
theorem dX0_attempt_43 : decode cX0_attempt 43 = .ok (.putfield 33, 3) := by decide +kernel
theorem dX0_attempt_46 : decode cX0_attempt 46 = .ok (.goto 13, 3) := by decide +kernel
theorem dX0_attempt_49 : decode cX0_attempt 49 = .ok (.aload_n 0, 1) := by decide +kernel
theorem dX0_attempt_50 : decode cX0_attempt 50 = .ok (.dup, 1) := by decide +kernel
theorem dX0_attempt_51 : decode cX0_attempt 51 = .ok (.getfield 33, 3) := by decide +kernel
theorem dX0_attempt_54 : decode cX0_attempt 54 = .ok (.iconst 1, 1) := by decide +kernel
theorem dX0_attempt_55 : decode cX0_attempt 55 = .ok (.iadd, 1) := by decide +kernel
theorem dX0_attempt_56 : decode cX0_attempt 56 = .ok (.putfield 33, 3) := by decide +kernel
theorem dX0_attempt_59 : decode cX0_attempt 59 = .ok (.iload_n 1, 1) := by decide +kernel
theorem dX0_attempt_60 : decode cX0_attempt 60 = .ok (.ireturn, 1) := by decide +kernel
theorem dX0_attemptAsShadow_0 : decode cX0_attemptAsShadow 0 = .ok (.aload_n 0, 1) := by decide +kernel
theorem dX0_attemptAsShadow_1 : decode cX0_attemptAsShadow 1 = .ok (.getfield 24, 3) := by decide +kernel
theorem dX0_attemptAsShadow_4 : decode cX0_attemptAsShadow 4 = .ok (.aload_n 0, 1) := by decide +kernel
theorem dX0_attemptAsShadow_5 : decode cX0_attemptAsShadow 5 = .ok (.getfield 42, 3) := by decide +kernel
theorem dX0_attemptAsShadow_8 : decode cX0_attemptAsShadow 8 = .ok (.invokestatic 48, 3) := by decide +kernel
theorem dX0_attemptAsShadow_11 : decode cX0_attemptAsShadow 11 = .ok (.ifCond .eq 13, 3) := by decide +kernel
theorem dX0_attemptAsShadow_14 : decode cX0_attemptAsShadow 14 = .ok (.aload_n 0, 1) := by decide +kernel
theorem dX0_attemptAsShadow_15 : decode cX0_attemptAsShadow 15 = .ok (.dup, 1) := by decide +kernel
theorem dX0_attemptAsShadow_16 : decode cX0_attemptAsShadow 16 = .ok (.getfield 45, 3) := by decide +kernel
theorem dX0_attemptAsShadow_19 : decode cX0_attemptAsShadow 19 = .ok (.iconst 1, 1) := by decide +kernel
theorem dX0_attemptAsShadow_20 : decode cX0_attemptAsShadow 20 = .ok (.iadd, 1) := by decide +kernel
theorem dX0_attemptAsShadow_21 : decode cX0_attemptAsShadow 21 = .ok (.putfield 45, 3) := by decide +kernel
theorem dX0_attemptAsShadow_24 : decode cX0_attemptAsShadow 24 = .ok (.aload_n 0, 1) := by decide +kernel
theorem dX0_attemptAsShadow_25 : decode cX0_attemptAsShadow 25 = .ok (.dup, 1) := by decide +kernel
theorem dX0_attemptAsShadow_26 : decode cX0_attemptAsShadow 26 = .ok (.getfield 42, 3) := by decide +kernel
theorem dX0_attemptAsShadow_29 : decode cX0_attemptAsShadow 29 = .ok (.iconst 1, 1) := by decide +kernel
theorem dX0_attemptAsShadow_30 : decode cX0_attemptAsShadow 30 = .ok (.iadd, 1) := by decide +kernel
theorem dX0_attemptAsShadow_31 : decode cX0_attemptAsShadow 31 = .ok (.putfield 42, 3) := by decide +kernel
theorem dX0_attemptAsShadow_34 : decode cX0_attemptAsShadow 34 = .ok (.return_, 1) := by decide +kernel
theorem dX0_eject_0 : decode cX0_eject 0 = .ok (.aload_n 0, 1) := by decide +kernel
theorem dX0_eject_1 : decode cX0_eject 1 = .ok (.dup, 1) := by decide +kernel
theorem dX0_eject_2 : decode cX0_eject 2 = .ok (.getfield 36, 3) := by decide +kernel
theorem dX0_eject_5 : decode cX0_eject 5 = .ok (.iconst 1, 1) := by decide +kernel
theorem dX0_eject_6 : decode cX0_eject 6 = .ok (.iadd, 1) := by decide +kernel
theorem dX0_eject_7 : decode cX0_eject 7 = .ok (.putfield 36, 3) := by decide +kernel
theorem dX0_eject_10 : decode cX0_eject 10 = .ok (.aload_n 0, 1) := by decide +kernel
theorem dX0_eject_11 : decode cX0_eject 11 = .ok (.iconst 0, 1) := by decide +kernel
theorem dX0_eject_12 : decode cX0_eject 12 = .ok (.putfield 33, 3) := by decide +kernel
theorem dX0_eject_15 : decode cX0_eject 15 = .ok (.aload_n 0, 1) := by decide +kernel
theorem dX0_eject_16 : decode cX0_eject 16 = .ok (.iload_n 1, 1) := by decide +kernel
theorem dX0_eject_17 : decode cX0_eject 17 = .ok (.aload_n 0, 1) := by decide +kernel
theorem dX0_eject_18 : decode cX0_eject 18 = .ok (.getfield 36, 3) := by decide +kernel
theorem dX0_eject_21 : decode cX0_eject 21 = .ok (.imul, 1) := by decide +kernel
theorem dX0_eject_22 : decode cX0_eject 22 = .ok (.putfield 39, 3) := by decide +kernel
theorem dX0_eject_25 : decode cX0_eject 25 = .ok (.return_, 1) := by decide +kernel
theorem dX0_property_0 : decode cX0_property 0 = .ok (.iload_n 1, 1) := by decide +kernel
theorem dX0_property_1 : decode cX0_property 1 = .ok (.tableswitch 123 0 11 #[63, 68, 73, 78, 83, 88, 93, 98, 103, 108, 113, 118], 63) := by decide +kernel
theorem dX0_property_64 : decode cX0_property 64 = .ok (.aload_n 0, 1) := by decide +kernel
theorem dX0_property_65 : decode cX0_property 65 = .ok (.getfield 9, 3) := by decide +kernel
theorem dX0_property_68 : decode cX0_property 68 = .ok (.ireturn, 1) := by decide +kernel
theorem dX0_property_69 : decode cX0_property 69 = .ok (.aload_n 0, 1) := by decide +kernel
theorem dX0_property_70 : decode cX0_property 70 = .ok (.getfield 15, 3) := by decide +kernel
theorem dX0_property_73 : decode cX0_property 73 = .ok (.ireturn, 1) := by decide +kernel
theorem dX0_property_74 : decode cX0_property 74 = .ok (.aload_n 0, 1) := by decide +kernel
theorem dX0_property_75 : decode cX0_property 75 = .ok (.getfield 18, 3) := by decide +kernel
theorem dX0_property_78 : decode cX0_property 78 = .ok (.ireturn, 1) := by decide +kernel
theorem dX0_property_79 : decode cX0_property 79 = .ok (.aload_n 0, 1) := by decide +kernel
theorem dX0_property_80 : decode cX0_property 80 = .ok (.getfield 24, 3) := by decide +kernel
theorem dX0_property_83 : decode cX0_property 83 = .ok (.ireturn, 1) := by decide +kernel
theorem dX0_property_84 : decode cX0_property 84 = .ok (.aload_n 0, 1) := by decide +kernel
theorem dX0_property_85 : decode cX0_property 85 = .ok (.getfield 21, 3) := by decide +kernel
theorem dX0_property_88 : decode cX0_property 88 = .ok (.ireturn, 1) := by decide +kernel
theorem dX0_property_89 : decode cX0_property 89 = .ok (.aload_n 0, 1) := by decide +kernel
theorem dX0_property_90 : decode cX0_property 90 = .ok (.getfield 27, 3) := by decide +kernel
theorem dX0_property_93 : decode cX0_property 93 = .ok (.ireturn, 1) := by decide +kernel
theorem dX0_property_94 : decode cX0_property 94 = .ok (.aload_n 0, 1) := by decide +kernel
theorem dX0_property_95 : decode cX0_property 95 = .ok (.getfield 30, 3) := by decide +kernel
theorem dX0_property_98 : decode cX0_property 98 = .ok (.ireturn, 1) := by decide +kernel
theorem dX0_property_99 : decode cX0_property 99 = .ok (.aload_n 0, 1) := by decide +kernel
theorem dX0_property_100 : decode cX0_property 100 = .ok (.getfield 33, 3) := by decide +kernel
theorem dX0_property_103 : decode cX0_property 103 = .ok (.ireturn, 1) := by decide +kernel
theorem dX0_property_104 : decode cX0_property 104 = .ok (.aload_n 0, 1) := by decide +kernel
theorem dX0_property_105 : decode cX0_property 105 = .ok (.getfield 36, 3) := by decide +kernel
theorem dX0_property_108 : decode cX0_property 108 = .ok (.ireturn, 1) := by decide +kernel
theorem dX0_property_109 : decode cX0_property 109 = .ok (.aload_n 0, 1) := by decide +kernel
theorem dX0_property_110 : decode cX0_property 110 = .ok (.getfield 39, 3) := by decide +kernel
theorem dX0_property_113 : decode cX0_property 113 = .ok (.ireturn, 1) := by decide +kernel
theorem dX0_property_114 : decode cX0_property 114 = .ok (.aload_n 0, 1) := by decide +kernel
theorem dX0_property_115 : decode cX0_property 115 = .ok (.getfield 42, 3) := by decide +kernel
theorem dX0_property_118 : decode cX0_property 118 = .ok (.ireturn, 1) := by decide +kernel
theorem dX0_property_119 : decode cX0_property 119 = .ok (.aload_n 0, 1) := by decide +kernel
theorem dX0_property_120 : decode cX0_property 120 = .ok (.getfield 45, 3) := by decide +kernel
theorem dX0_property_123 : decode cX0_property 123 = .ok (.ireturn, 1) := by decide +kernel
theorem dX0_property_124 : decode cX0_property 124 = .ok (.bipush (-2), 2) := by decide +kernel
theorem dX0_property_126 : decode cX0_property 126 = .ok (.ireturn, 1) := by decide +kernel
theorem dX1_init_0 : decode cX1_init 0 = .ok (.aload_n 0, 1) := by decide +kernel
theorem dX1_init_1 : decode cX1_init 1 = .ok (.invokespecial 3, 3) := by decide +kernel
theorem dX1_init_4 : decode cX1_init 4 = .ok (.aload_n 0, 1) := by decide +kernel
theorem dX1_init_5 : decode cX1_init 5 = .ok (.bipush 12, 2) := by decide +kernel
theorem dX1_init_7 : decode cX1_init 7 = .ok (.anewarray 9, 3) := by decide +kernel
theorem dX1_init_10 : decode cX1_init 10 = .ok (.putfield 11, 3) := by decide +kernel
theorem dX1_init_13 : decode cX1_init 13 = .ok (.aload_n 0, 1) := by decide +kernel
theorem dX1_init_14 : decode cX1_init 14 = .ok (.iconst 4, 1) := by decide +kernel
theorem dX1_init_15 : decode cX1_init 15 = .ok (.anewarray 17, 3) := by decide +kernel
theorem dX1_init_18 : decode cX1_init 18 = .ok (.putfield 19, 3) := by decide +kernel
theorem dX1_init_21 : decode cX1_init 21 = .ok (.aload_n 0, 1) := by decide +kernel
theorem dX1_init_22 : decode cX1_init 22 = .ok (.bipush 8, 2) := by decide +kernel
theorem dX1_init_24 : decode cX1_init 24 = .ok (.anewarray 23, 3) := by decide +kernel
theorem dX1_init_27 : decode cX1_init 27 = .ok (.putfield 25, 3) := by decide +kernel
theorem dX1_init_30 : decode cX1_init 30 = .ok (.aload_n 0, 1) := by decide +kernel
theorem dX1_init_31 : decode cX1_init 31 = .ok (.bipush 70, 2) := by decide +kernel
theorem dX1_init_33 : decode cX1_init 33 = .ok (.putfield 29, 3) := by decide +kernel
theorem dX1_init_36 : decode cX1_init 36 = .ok (.aload_n 0, 1) := by decide +kernel
theorem dX1_init_37 : decode cX1_init 37 = .ok (.new 33, 3) := by decide +kernel
theorem dX1_init_40 : decode cX1_init 40 = .ok (.dup, 1) := by decide +kernel
theorem dX1_init_41 : decode cX1_init 41 = .ok (.invokespecial 35, 3) := by decide +kernel
theorem dX1_init_44 : decode cX1_init 44 = .ok (.putfield 36, 3) := by decide +kernel
theorem dX1_init_47 : decode cX1_init 47 = .ok (.iconst 0, 1) := by decide +kernel
theorem dX1_init_48 : decode cX1_init 48 = .ok (.istore_n 1, 1) := by decide +kernel
theorem dX1_init_49 : decode cX1_init 49 = .ok (.iload_n 1, 1) := by decide +kernel
theorem dX1_init_50 : decode cX1_init 50 = .ok (.bipush 12, 2) := by decide +kernel
theorem dX1_init_52 : decode cX1_init 52 = .ok (.if_icmp .ge 22, 3) := by decide +kernel
theorem dX1_init_55 : decode cX1_init 55 = .ok (.aload_n 0, 1) := by decide +kernel
theorem dX1_init_56 : decode cX1_init 56 = .ok (.getfield 11, 3) := by decide +kernel
theorem dX1_init_59 : decode cX1_init 59 = .ok (.iload_n 1, 1) := by decide +kernel
theorem dX1_init_60 : decode cX1_init 60 = .ok (.new 9, 3) := by decide +kernel
theorem dX1_init_63 : decode cX1_init 63 = .ok (.dup, 1) := by decide +kernel
theorem dX1_init_64 : decode cX1_init 64 = .ok (.invokespecial 40, 3) := by decide +kernel
theorem dX1_init_67 : decode cX1_init 67 = .ok (.aastore, 1) := by decide +kernel
theorem dX1_init_68 : decode cX1_init 68 = .ok (.iinc 1 1, 3) := by decide +kernel
theorem dX1_init_71 : decode cX1_init 71 = .ok (.goto (-22), 3) := by decide +kernel
theorem dX1_init_74 : decode cX1_init 74 = .ok (.iconst 0, 1) := by decide +kernel
theorem dX1_init_75 : decode cX1_init 75 = .ok (.istore_n 1, 1) := by decide +kernel
theorem dX1_init_76 : decode cX1_init 76 = .ok (.iload_n 1, 1) := by decide +kernel
theorem dX1_init_77 : decode cX1_init 77 = .ok (.iconst 4, 1) := by decide +kernel
theorem dX1_init_78 : decode cX1_init 78 = .ok (.if_icmp .ge 22, 3) := by decide +kernel
theorem dX1_init_81 : decode cX1_init 81 = .ok (.aload_n 0, 1) := by decide +kernel
theorem dX1_init_82 : decode cX1_init 82 = .ok (.getfield 19, 3) := by decide +kernel
theorem dX1_init_85 : decode cX1_init 85 = .ok (.iload_n 1, 1) := by decide +kernel
theorem dX1_init_86 : decode cX1_init 86 = .ok (.new 17, 3) := by decide +kernel
theorem dX1_init_89 : decode cX1_init 89 = .ok (.dup, 1) := by decide +kernel
theorem dX1_init_90 : decode cX1_init 90 = .ok (.invokespecial 41, 3) := by decide +kernel
theorem dX1_init_93 : decode cX1_init 93 = .ok (.aastore, 1) := by decide +kernel
theorem dX1_init_94 : decode cX1_init 94 = .ok (.iinc 1 1, 3) := by decide +kernel
theorem dX1_init_97 : decode cX1_init 97 = .ok (.goto (-21), 3) := by decide +kernel
theorem dX1_init_100 : decode cX1_init 100 = .ok (.iconst 0, 1) := by decide +kernel
theorem dX1_init_101 : decode cX1_init 101 = .ok (.istore_n 1, 1) := by decide +kernel
theorem dX1_init_102 : decode cX1_init 102 = .ok (.iload_n 1, 1) := by decide +kernel
theorem dX1_init_103 : decode cX1_init 103 = .ok (.bipush 8, 2) := by decide +kernel
theorem dX1_init_105 : decode cX1_init 105 = .ok (.if_icmp .ge 22, 3) := by decide +kernel
theorem dX1_init_108 : decode cX1_init 108 = .ok (.aload_n 0, 1) := by decide +kernel
theorem dX1_init_109 : decode cX1_init 109 = .ok (.getfield 25, 3) := by decide +kernel
theorem dX1_init_112 : decode cX1_init 112 = .ok (.iload_n 1, 1) := by decide +kernel
theorem dX1_init_113 : decode cX1_init 113 = .ok (.new 23, 3) := by decide +kernel
theorem dX1_init_116 : decode cX1_init 116 = .ok (.dup, 1) := by decide +kernel
theorem dX1_init_117 : decode cX1_init 117 = .ok (.invokespecial 42, 3) := by decide +kernel
theorem dX1_init_120 : decode cX1_init 120 = .ok (.aastore, 1) := by decide +kernel
theorem dX1_init_121 : decode cX1_init 121 = .ok (.iinc 1 1, 3) := by decide +kernel
theorem dX1_init_124 : decode cX1_init 124 = .ok (.goto (-22), 3) := by decide +kernel
theorem dX1_init_127 : decode cX1_init 127 = .ok (.return_, 1) := by decide +kernel
theorem dX1_copyFrom_0 : decode cX1_copyFrom 0 = .ok (.aload_n 0, 1) := by decide +kernel
theorem dX1_copyFrom_1 : decode cX1_copyFrom 1 = .ok (.aload_n 1, 1) := by decide +kernel
theorem dX1_copyFrom_2 : decode cX1_copyFrom 2 = .ok (.getfield 43, 3) := by decide +kernel
theorem dX1_copyFrom_5 : decode cX1_copyFrom 5 = .ok (.putfield 43, 3) := by decide +kernel
theorem dX1_copyFrom_8 : decode cX1_copyFrom 8 = .ok (.iconst 0, 1) := by decide +kernel
theorem dX1_copyFrom_9 : decode cX1_copyFrom 9 = .ok (.istore_n 2, 1) := by decide +kernel
theorem dX1_copyFrom_10 : decode cX1_copyFrom 10 = .ok (.iload_n 2, 1) := by decide +kernel
theorem dX1_copyFrom_11 : decode cX1_copyFrom 11 = .ok (.aload_n 0, 1) := by decide +kernel
theorem dX1_copyFrom_12 : decode cX1_copyFrom 12 = .ok (.getfield 43, 3) := by decide +kernel
theorem dX1_copyFrom_15 : decode cX1_copyFrom 15 = .ok (.if_icmp .ge 24, 3) := by decide +kernel
theorem dX1_copyFrom_18 : decode cX1_copyFrom 18 = .ok (.aload_n 0, 1) := by decide +kernel
theorem dX1_copyFrom_19 : decode cX1_copyFrom 19 = .ok (.getfield 11, 3) := by decide +kernel
theorem dX1_copyFrom_22 : decode cX1_copyFrom 22 = .ok (.iload_n 2, 1) := by decide +kernel
theorem dX1_copyFrom_23 : decode cX1_copyFrom 23 = .ok (.aaload, 1) := by decide +kernel
theorem dX1_copyFrom_24 : decode cX1_copyFrom 24 = .ok (.aload_n 1, 1) := by decide +kernel
theorem dX1_copyFrom_25 : decode cX1_copyFrom 25 = .ok (.getfield 11, 3) := by decide +kernel
theorem dX1_copyFrom_28 : decode cX1_copyFrom 28 = .ok (.iload_n 2, 1) := by decide +kernel
theorem dX1_copyFrom_29 : decode cX1_copyFrom 29 = .ok (.aaload, 1) := by decide +kernel
theorem dX1_copyFrom_30 : decode cX1_copyFrom 30 = .ok (.invokevirtual 46, 3) := by decide +kernel
theorem dX1_copyFrom_33 : decode cX1_copyFrom 33 = .ok (.iinc 2 1, 3) := by decide +kernel
theorem dX1_copyFrom_36 : decode cX1_copyFrom 36 = .ok (.goto (-26), 3) := by decide +kernel
theorem dX1_copyFrom_39 : decode cX1_copyFrom 39 = .ok (.iconst 0, 1) := by decide +kernel
theorem dX1_copyFrom_40 : decode cX1_copyFrom 40 = .ok (.istore_n 2, 1) := by decide +kernel
theorem dX1_copyFrom_41 : decode cX1_copyFrom 41 = .ok (.iload_n 2, 1) := by decide +kernel
theorem dX1_copyFrom_42 : decode cX1_copyFrom 42 = .ok (.iconst 4, 1) := by decide +kernel
theorem dX1_copyFrom_43 : decode cX1_copyFrom 43 = .ok (.if_icmp .ge 24, 3) := by decide +kernel
theorem dX1_copyFrom_46 : decode cX1_copyFrom 46 = .ok (.aload_n 0, 1) := by decide +kernel
theorem dX1_copyFrom_47 : decode cX1_copyFrom 47 = .ok (.getfield 19, 3) := by decide +kernel
theorem dX1_copyFrom_50 : decode cX1_copyFrom 50 = .ok (.iload_n 2, 1) := by decide +kernel
theorem dX1_copyFrom_51 : decode cX1_copyFrom 51 = .ok (.aaload, 1) := by decide +kernel
theorem dX1_copyFrom_52 : decode cX1_copyFrom 52 = .ok (.aload_n 1, 1) := by decide +kernel
theorem dX1_copyFrom_53 : decode cX1_copyFrom 53 = .ok (.getfield 19, 3) := by decide +kernel
theorem dX1_copyFrom_56 : decode cX1_copyFrom 56 = .ok (.iload_n 2, 1) := by decide +kernel
theorem dX1_copyFrom_57 : decode cX1_copyFrom 57 = .ok (.aaload, 1) := by decide +kernel
theorem dX1_copyFrom_58 : decode cX1_copyFrom 58 = .ok (.invokevirtual 50, 3) := by decide +kernel
theorem dX1_copyFrom_61 : decode cX1_copyFrom 61 = .ok (.iinc 2 1, 3) := by decide +kernel
theorem dX1_copyFrom_64 : decode cX1_copyFrom 64 = .ok (.goto (-23), 3) := by decide +kernel
theorem dX1_copyFrom_67 : decode cX1_copyFrom 67 = .ok (.aload_n 0, 1) := by decide +kernel
theorem dX1_copyFrom_68 : decode cX1_copyFrom 68 = .ok (.aload_n 1, 1) := by decide +kernel
theorem dX1_copyFrom_69 : decode cX1_copyFrom 69 = .ok (.getfield 53, 3) := by decide +kernel
theorem dX1_copyFrom_72 : decode cX1_copyFrom 72 = .ok (.putfield 53, 3) := by decide +kernel
theorem dX1_copyFrom_75 : decode cX1_copyFrom 75 = .ok (.iconst 0, 1) := by decide +kernel
theorem dX1_copyFrom_76 : decode cX1_copyFrom 76 = .ok (.istore_n 2, 1) := by decide +kernel
theorem dX1_copyFrom_77 : decode cX1_copyFrom 77 = .ok (.iload_n 2, 1) := by decide +kernel
theorem dX1_copyFrom_78 : decode cX1_copyFrom 78 = .ok (.aload_n 0, 1) := by decide +kernel
theorem dX1_copyFrom_79 : decode cX1_copyFrom 79 = .ok (.getfield 53, 3) := by decide +kernel
theorem dX1_copyFrom_82 : decode cX1_copyFrom 82 = .ok (.if_icmp .ge 24, 3) := by decide +kernel
theorem dX1_copyFrom_85 : decode cX1_copyFrom 85 = .ok (.aload_n 0, 1) := by decide +kernel
theorem dX1_copyFrom_86 : decode cX1_copyFrom 86 = .ok (.getfield 25, 3) := by decide +kernel
theorem dX1_copyFrom_89 : decode cX1_copyFrom 89 = .ok (.iload_n 2, 1) := by decide +kernel
theorem dX1_copyFrom_90 : decode cX1_copyFrom 90 = .ok (.aaload, 1) := by decide +kernel
theorem dX1_copyFrom_91 : decode cX1_copyFrom 91 = .ok (.aload_n 1, 1) := by decide +kernel
theorem dX1_copyFrom_92 : decode cX1_copyFrom 92 = .ok (.getfield 25, 3) := by decide +kernel
theorem dX1_copyFrom_95 : decode cX1_copyFrom 95 = .ok (.iload_n 2, 1) := by decide +kernel
theorem dX1_copyFrom_96 : decode cX1_copyFrom 96 = .ok (.aaload, 1) := by decide +kernel
theorem dX1_copyFrom_97 : decode cX1_copyFrom 97 = .ok (.invokevirtual 56, 3) := by decide +kernel
theorem dX1_copyFrom_100 : decode cX1_copyFrom 100 = .ok (.iinc 2 1, 3) := by decide +kernel
theorem dX1_copyFrom_103 : decode cX1_copyFrom 103 = .ok (.goto (-26), 3) := by decide +kernel
theorem dX1_copyFrom_106 : decode cX1_copyFrom 106 = .ok (.aload_n 0, 1) := by decide +kernel
theorem dX1_copyFrom_107 : decode cX1_copyFrom 107 = .ok (.aload_n 1, 1) := by decide +kernel
theorem dX1_copyFrom_108 : decode cX1_copyFrom 108 = .ok (.getfield 29, 3) := by decide +kernel
theorem dX1_copyFrom_111 : decode cX1_copyFrom 111 = .ok (.putfield 29, 3) := by decide +kernel
theorem dX1_copyFrom_114 : decode cX1_copyFrom 114 = .ok (.aload_n 0, 1) := by decide +kernel
theorem dX1_copyFrom_115 : decode cX1_copyFrom 115 = .ok (.aload_n 1, 1) := by decide +kernel
theorem dX1_copyFrom_116 : decode cX1_copyFrom 116 = .ok (.getfield 59, 3) := by decide +kernel
theorem dX1_copyFrom_119 : decode cX1_copyFrom 119 = .ok (.putfield 59, 3) := by decide +kernel
theorem dX1_copyFrom_122 : decode cX1_copyFrom 122 = .ok (.aload_n 0, 1) := by decide +kernel
theorem dX1_copyFrom_123 : decode cX1_copyFrom 123 = .ok (.aload_n 1, 1) := by decide +kernel
theorem dX1_copyFrom_124 : decode cX1_copyFrom 124 = .ok (.getfield 62, 3) := by decide +kernel
theorem dX1_copyFrom_127 : decode cX1_copyFrom 127 = .ok (.putfield 62, 3) := by decide +kernel
theorem dX1_copyFrom_130 : decode cX1_copyFrom 130 = .ok (.aload_n 0, 1) := by decide +kernel
theorem dX1_copyFrom_131 : decode cX1_copyFrom 131 = .ok (.aload_n 1, 1) := by decide +kernel
theorem dX1_copyFrom_132 : decode cX1_copyFrom 132 = .ok (.getfield 65, 3) := by decide +kernel
theorem dX1_copyFrom_135 : decode cX1_copyFrom 135 = .ok (.putfield 65, 3) := by decide +kernel
theorem dX1_copyFrom_138 : decode cX1_copyFrom 138 = .ok (.aload_n 0, 1) := by decide +kernel
theorem dX1_copyFrom_139 : decode cX1_copyFrom 139 = .ok (.aload_n 1, 1) := by decide +kernel
theorem dX1_copyFrom_140 : decode cX1_copyFrom 140 = .ok (.getfield 68, 3) := by decide +kernel
theorem dX1_copyFrom_143 : decode cX1_copyFrom 143 = .ok (.putfield 68, 3) := by decide +kernel
theorem dX1_copyFrom_146 : decode cX1_copyFrom 146 = .ok (.aload_n 0, 1) := by decide +kernel
theorem dX1_copyFrom_147 : decode cX1_copyFrom 147 = .ok (.aload_n 1, 1) := by decide +kernel
theorem dX1_copyFrom_148 : decode cX1_copyFrom 148 = .ok (.getfield 71, 3) := by decide +kernel
theorem dX1_copyFrom_151 : decode cX1_copyFrom 151 = .ok (.putfield 71, 3) := by decide +kernel
theorem dX1_copyFrom_154 : decode cX1_copyFrom 154 = .ok (.aload_n 0, 1) := by decide +kernel
theorem dX1_copyFrom_155 : decode cX1_copyFrom 155 = .ok (.aload_n 1, 1) := by decide +kernel
theorem dX1_copyFrom_156 : decode cX1_copyFrom 156 = .ok (.getfield 74, 3) := by decide +kernel
theorem dX1_copyFrom_159 : decode cX1_copyFrom 159 = .ok (.putfield 74, 3) := by decide +kernel
theorem dX1_copyFrom_162 : decode cX1_copyFrom 162 = .ok (.aload_n 0, 1) := by decide +kernel
theorem dX1_copyFrom_163 : decode cX1_copyFrom 163 = .ok (.aload_n 1, 1) := by decide +kernel
theorem dX1_copyFrom_164 : decode cX1_copyFrom 164 = .ok (.getfield 77, 3) := by decide +kernel
theorem dX1_copyFrom_167 : decode cX1_copyFrom 167 = .ok (.putfield 77, 3) := by decide +kernel
theorem dX1_copyFrom_170 : decode cX1_copyFrom 170 = .ok (.aload_n 0, 1) := by decide +kernel
theorem dX1_copyFrom_171 : decode cX1_copyFrom 171 = .ok (.aload_n 1, 1) := by decide +kernel
theorem dX1_copyFrom_172 : decode cX1_copyFrom 172 = .ok (.getfield 80, 3) := by decide +kernel
theorem dX1_copyFrom_175 : decode cX1_copyFrom 175 = .ok (.putfield 80, 3) := by decide +kernel
theorem dX1_copyFrom_178 : decode cX1_copyFrom 178 = .ok (.aload_n 0, 1) := by decide +kernel
theorem dX1_copyFrom_179 : decode cX1_copyFrom 179 = .ok (.aload_n 1, 1) := by decide +kernel
theorem dX1_copyFrom_180 : decode cX1_copyFrom 180 = .ok (.getfield 83, 3) := by decide +kernel
theorem dX1_copyFrom_183 : decode cX1_copyFrom 183 = .ok (.putfield 83, 3) := by decide +kernel
theorem dX1_copyFrom_186 : decode cX1_copyFrom 186 = .ok (.return_, 1) := by decide +kernel
theorem dX1_hasBackend_0 : decode cX1_hasBackend 0 = .ok (.iload_n 1, 1) := by decide +kernel
theorem dX1_hasBackend_1 : decode cX1_hasBackend 1 = .ok (.iconst 0, 1) := by decide +kernel
theorem dX1_hasBackend_2 : decode cX1_hasBackend 2 = .ok (.aload_n 0, 1) := by decide +kernel
theorem dX1_hasBackend_3 : decode cX1_hasBackend 3 = .ok (.getfield 43, 3) := by decide +kernel
theorem dX1_hasBackend_6 : decode cX1_hasBackend 6 = .ok (.iconst 1, 1) := by decide +kernel
theorem dX1_hasBackend_7 : decode cX1_hasBackend 7 = .ok (.isub, 1) := by decide +kernel
theorem dX1_hasBackend_8 : decode cX1_hasBackend 8 = .ok (.invokestatic 86, 3) := by decide +kernel
theorem dX1_hasBackend_11 : decode cX1_hasBackend 11 = .ok (.ireturn, 1) := by decide +kernel
theorem dX1_hasRule_0 : decode cX1_hasRule 0 = .ok (.iload_n 1, 1) := by decide +kernel
theorem dX1_hasRule_1 : decode cX1_hasRule 1 = .ok (.iconst 0, 1) := by decide +kernel
theorem dX1_hasRule_2 : decode cX1_hasRule 2 = .ok (.aload_n 0, 1) := by decide +kernel
theorem dX1_hasRule_3 : decode cX1_hasRule 3 = .ok (.getfield 53, 3) := by decide +kernel
theorem dX1_hasRule_6 : decode cX1_hasRule 6 = .ok (.iconst 1, 1) := by decide +kernel
theorem dX1_hasRule_7 : decode cX1_hasRule 7 = .ok (.isub, 1) := by decide +kernel
theorem dX1_hasRule_8 : decode cX1_hasRule 8 = .ok (.invokestatic 86, 3) := by decide +kernel
theorem dX1_hasRule_11 : decode cX1_hasRule 11 = .ok (.ireturn, 1) := by decide +kernel
theorem dX1_takeBackend_0 : decode cX1_takeBackend 0 = .ok (.aload_n 0, 1) := by decide +kernel
theorem dX1_takeBackend_1 : decode cX1_takeBackend 1 = .ok (.getfield 11, 3) := by decide +kernel
theorem dX1_takeBackend_4 : decode cX1_takeBackend 4 = .ok (.aload_n 0, 1) := by decide +kernel
theorem dX1_takeBackend_5 : decode cX1_takeBackend 5 = .ok (.getfield 43, 3) := by decide +kernel
theorem dX1_takeBackend_8 : decode cX1_takeBackend 8 = .ok (.aaload, 1) := by decide +kernel
theorem dX1_takeBackend_9 : decode cX1_takeBackend 9 = .ok (.iload_n 1, 1) := by decide +kernel
theorem dX1_takeBackend_10 : decode cX1_takeBackend 10 = .ok (.iload_n 2, 1) := by decide +kernel
theorem dX1_takeBackend_11 : decode cX1_takeBackend 11 = .ok (.iload_n 3, 1) := by decide +kernel
theorem dX1_takeBackend_12 : decode cX1_takeBackend 12 = .ok (.invokevirtual 90, 3) := by decide +kernel
theorem dX1_takeBackend_15 : decode cX1_takeBackend 15 = .ok (.aload_n 0, 1) := by decide +kernel
theorem dX1_takeBackend_16 : decode cX1_takeBackend 16 = .ok (.dup, 1) := by decide +kernel
theorem dX1_takeBackend_17 : decode cX1_takeBackend 17 = .ok (.getfield 43, 3) := by decide +kernel
theorem dX1_takeBackend_20 : decode cX1_takeBackend 20 = .ok (.iconst 1, 1) := by decide +kernel
theorem dX1_takeBackend_21 : decode cX1_takeBackend 21 = .ok (.iadd, 1) := by decide +kernel
theorem dX1_takeBackend_22 : decode cX1_takeBackend 22 = .ok (.putfield 43, 3) := by decide +kernel
theorem dX1_takeBackend_25 : decode cX1_takeBackend 25 = .ok (.aload_n 0, 1) := by decide +kernel
theorem dX1_takeBackend_26 : decode cX1_takeBackend 26 = .ok (.getfield 43, 3) := by decide +kernel
theorem dX1_takeBackend_29 : decode cX1_takeBackend 29 = .ok (.iconst 1, 1) := by decide +kernel
theorem dX1_takeBackend_30 : decode cX1_takeBackend 30 = .ok (.isub, 1) := by decide +kernel
theorem dX1_takeBackend_31 : decode cX1_takeBackend 31 = .ok (.ireturn, 1) := by decide +kernel
theorem dX1_takeRule_0 : decode cX1_takeRule 0 = .ok (.aload_n 0, 1) := by decide +kernel
theorem dX1_takeRule_1 : decode cX1_takeRule 1 = .ok (.getfield 25, 3) := by decide +kernel
theorem dX1_takeRule_4 : decode cX1_takeRule 4 = .ok (.aload_n 0, 1) := by decide +kernel
theorem dX1_takeRule_5 : decode cX1_takeRule 5 = .ok (.getfield 53, 3) := by decide +kernel
theorem dX1_takeRule_8 : decode cX1_takeRule 8 = .ok (.aaload, 1) := by decide +kernel
theorem dX1_takeRule_9 : decode cX1_takeRule 9 = .ok (.aload_n 1, 1) := by decide +kernel
theorem dX1_takeRule_10 : decode cX1_takeRule 10 = .ok (.invokevirtual 56, 3) := by decide +kernel
theorem dX1_takeRule_13 : decode cX1_takeRule 13 = .ok (.aload_n 0, 1) := by decide +kernel
theorem dX1_takeRule_14 : decode cX1_takeRule 14 = .ok (.dup, 1) := by decide +kernel
theorem dX1_takeRule_15 : decode cX1_takeRule 15 = .ok (.getfield 53, 3) := by decide +kernel
theorem dX1_takeRule_18 : decode cX1_takeRule 18 = .ok (.iconst 1, 1) := by decide +kernel
theorem dX1_takeRule_19 : decode cX1_takeRule 19 = .ok (.iadd, 1) := by decide +kernel
theorem dX1_takeRule_20 : decode cX1_takeRule 20 = .ok (.putfield 53, 3) := by decide +kernel
theorem dX1_takeRule_23 : decode cX1_takeRule 23 = .ok (.aload_n 0, 1) := by decide +kernel
theorem dX1_takeRule_24 : decode cX1_takeRule 24 = .ok (.getfield 53, 3) := by decide +kernel
theorem dX1_takeRule_27 : decode cX1_takeRule 27 = .ok (.iconst 1, 1) := by decide +kernel
theorem dX1_takeRule_28 : decode cX1_takeRule 28 = .ok (.isub, 1) := by decide +kernel
theorem dX1_takeRule_29 : decode cX1_takeRule 29 = .ok (.ireturn, 1) := by decide +kernel
theorem dX1_shiftRule_0 : decode cX1_shiftRule 0 = .ok (.aload_n 0, 1) := by decide +kernel
theorem dX1_shiftRule_1 : decode cX1_shiftRule 1 = .ok (.getfield 25, 3) := by decide +kernel
theorem dX1_shiftRule_4 : decode cX1_shiftRule 4 = .ok (.iload_n 1, 1) := by decide +kernel
theorem dX1_shiftRule_5 : decode cX1_shiftRule 5 = .ok (.aaload, 1) := by decide +kernel
theorem dX1_shiftRule_6 : decode cX1_shiftRule 6 = .ok (.astore_n 3, 1) := by decide +kernel
theorem dX1_shiftRule_7 : decode cX1_shiftRule 7 = .ok (.iload_n 1, 1) := by decide +kernel
theorem dX1_shiftRule_8 : decode cX1_shiftRule 8 = .ok (.istore 4, 2) := by decide +kernel
theorem dX1_shiftRule_10 : decode cX1_shiftRule 10 = .ok (.iload 4, 2) := by decide +kernel
theorem dX1_shiftRule_12 : decode cX1_shiftRule 12 = .ok (.iload_n 2, 1) := by decide +kernel
theorem dX1_shiftRule_13 : decode cX1_shiftRule 13 = .ok (.if_icmp .ge 25, 3) := by decide +kernel
theorem dX1_shiftRule_16 : decode cX1_shiftRule 16 = .ok (.aload_n 0, 1) := by decide +kernel
theorem dX1_shiftRule_17 : decode cX1_shiftRule 17 = .ok (.getfield 25, 3) := by decide +kernel
theorem dX1_shiftRule_20 : decode cX1_shiftRule 20 = .ok (.iload 4, 2) := by decide +kernel
theorem dX1_shiftRule_22 : decode cX1_shiftRule 22 = .ok (.aload_n 0, 1) := by decide +kernel
theorem dX1_shiftRule_23 : decode cX1_shiftRule 23 = .ok (.getfield 25, 3) := by decide +kernel
theorem dX1_shiftRule_26 : decode cX1_shiftRule 26 = .ok (.iload 4, 2) := by decide +kernel
theorem dX1_shiftRule_28 : decode cX1_shiftRule 28 = .ok (.iconst 1, 1) := by decide +kernel
theorem dX1_shiftRule_29 : decode cX1_shiftRule 29 = .ok (.iadd, 1) := by decide +kernel
theorem dX1_shiftRule_30 : decode cX1_shiftRule 30 = .ok (.aaload, 1) := by decide +kernel
theorem dX1_shiftRule_31 : decode cX1_shiftRule 31 = .ok (.aastore, 1) := by decide +kernel
theorem dX1_shiftRule_32 : decode cX1_shiftRule 32 = .ok (.iinc 4 1, 3) := by decide +kernel
theorem dX1_shiftRule_35 : decode cX1_shiftRule 35 = .ok (.goto (-25), 3) := by decide +kernel
theorem dX1_shiftRule_38 : decode cX1_shiftRule 38 = .ok (.iload_n 1, 1) := by decide +kernel
theorem dX1_shiftRule_39 : decode cX1_shiftRule 39 = .ok (.istore 4, 2) := by decide +kernel
theorem dX1_shiftRule_41 : decode cX1_shiftRule 41 = .ok (.iload 4, 2) := by decide +kernel
theorem dX1_shiftRule_43 : decode cX1_shiftRule 43 = .ok (.iload_n 2, 1) := by decide +kernel
theorem dX1_shiftRule_44 : decode cX1_shiftRule 44 = .ok (.if_icmp .le 25, 3) := by decide +kernel
theorem dX1_shiftRule_47 : decode cX1_shiftRule 47 = .ok (.aload_n 0, 1) := by decide +kernel
theorem dX1_shiftRule_48 : decode cX1_shiftRule 48 = .ok (.getfield 25, 3) := by decide +kernel
theorem dX1_shiftRule_51 : decode cX1_shiftRule 51 = .ok (.iload 4, 2) := by decide +kernel
theorem dX1_shiftRule_53 : decode cX1_shiftRule 53 = .ok (.aload_n 0, 1) := by decide +kernel
theorem dX1_shiftRule_54 : decode cX1_shiftRule 54 = .ok (.getfield 25, 3) := by decide +kernel
theorem dX1_shiftRule_57 : decode cX1_shiftRule 57 = .ok (.iload 4, 2) := by decide +kernel
theorem dX1_shiftRule_59 : decode cX1_shiftRule 59 = .ok (.iconst 1, 1) := by decide +kernel
theorem dX1_shiftRule_60 : decode cX1_shiftRule 60 = .ok (.isub, 1) := by decide +kernel
theorem dX1_shiftRule_61 : decode cX1_shiftRule 61 = .ok (.aaload, 1) := by decide +kernel
theorem dX1_shiftRule_62 : decode cX1_shiftRule 62 = .ok (.aastore, 1) := by decide +kernel
theorem dX1_shiftRule_63 : decode cX1_shiftRule 63 = .ok (.iinc 4 (-1), 3) := by decide +kernel
theorem dX1_shiftRule_66 : decode cX1_shiftRule 66 = .ok (.goto (-25), 3) := by decide +kernel
theorem dX1_shiftRule_69 : decode cX1_shiftRule 69 = .ok (.aload_n 0, 1) := by decide +kernel
theorem dX1_shiftRule_70 : decode cX1_shiftRule 70 = .ok (.getfield 25, 3) := by decide +kernel
theorem dX1_shiftRule_73 : decode cX1_shiftRule 73 = .ok (.iload_n 2, 1) := by decide +kernel
theorem dX1_shiftRule_74 : decode cX1_shiftRule 74 = .ok (.aload_n 3, 1) := by decide +kernel
theorem dX1_shiftRule_75 : decode cX1_shiftRule 75 = .ok (.aastore, 1) := by decide +kernel
theorem dX1_shiftRule_76 : decode cX1_shiftRule 76 = .ok (.return_, 1) := by decide +kernel
theorem dX1_findRule_0 : decode cX1_findRule 0 = .ok (.iconst 0, 1) := by decide +kernel
theorem dX1_findRule_1 : decode cX1_findRule 1 = .ok (.istore_n 3, 1) := by decide +kernel
theorem dX1_findRule_2 : decode cX1_findRule 2 = .ok (.iload_n 3, 1) := by decide +kernel
theorem dX1_findRule_3 : decode cX1_findRule 3 = .ok (.aload_n 0, 1) := by decide +kernel
theorem dX1_findRule_4 : decode cX1_findRule 4 = .ok (.getfield 53, 3) := by decide +kernel
theorem dX1_findRule_7 : decode cX1_findRule 7 = .ok (.if_icmp .ge 25, 3) := by decide +kernel
theorem dX1_findRule_10 : decode cX1_findRule 10 = .ok (.aload_n 0, 1) := by decide +kernel
theorem dX1_findRule_11 : decode cX1_findRule 11 = .ok (.getfield 25, 3) := by decide +kernel
theorem dX1_findRule_14 : decode cX1_findRule 14 = .ok (.iload_n 3, 1) := by decide +kernel
theorem dX1_findRule_15 : decode cX1_findRule 15 = .ok (.aaload, 1) := by decide +kernel
theorem dX1_findRule_16 : decode cX1_findRule 16 = .ok (.aload_n 1, 1) := by decide +kernel
theorem dX1_findRule_17 : decode cX1_findRule 17 = .ok (.iload_n 2, 1) := by decide +kernel
theorem dX1_findRule_18 : decode cX1_findRule 18 = .ok (.invokevirtual 94, 3) := by decide +kernel
theorem dX1_findRule_21 : decode cX1_findRule 21 = .ok (.ifCond .eq 5, 3) := by decide +kernel
theorem dX1_findRule_24 : decode cX1_findRule 24 = .ok (.iload_n 3, 1) := by decide +kernel
theorem dX1_findRule_25 : decode cX1_findRule 25 = .ok (.ireturn, 1) := by decide +kernel
theorem dX1_findRule_26 : decode cX1_findRule 26 = .ok (.iinc 3 1, 3) := by decide +kernel
theorem dX1_findRule_29 : decode cX1_findRule 29 = .ok (.goto (-27), 3) := by decide +kernel
theorem dX1_findRule_32 : decode cX1_findRule 32 = .ok (.iconst (-1), 1) := by decide +kernel
theorem dX1_findRule_33 : decode cX1_findRule 33 = .ok (.ireturn, 1) := by decide +kernel
theorem dX1_passTick_0 : decode cX1_passTick 0 = .ok (.aload_n 0, 1) := by decide +kernel
theorem dX1_passTick_1 : decode cX1_passTick 1 = .ok (.dup, 1) := by decide +kernel
theorem dX1_passTick_2 : decode cX1_passTick 2 = .ok (.getfield 59, 3) := by decide +kernel
theorem dX1_passTick_5 : decode cX1_passTick 5 = .ok (.iconst 1, 1) := by decide +kernel
theorem dX1_passTick_6 : decode cX1_passTick 6 = .ok (.iadd, 1) := by decide +kernel
theorem dX1_passTick_7 : decode cX1_passTick 7 = .ok (.putfield 59, 3) := by decide +kernel
theorem dX1_passTick_10 : decode cX1_passTick 10 = .ok (.iconst 0, 1) := by decide +kernel
theorem dX1_passTick_11 : decode cX1_passTick 11 = .ok (.istore_n 1, 1) := by decide +kernel
theorem dX1_passTick_12 : decode cX1_passTick 12 = .ok (.iload_n 1, 1) := by decide +kernel
theorem dX1_passTick_13 : decode cX1_passTick 13 = .ok (.aload_n 0, 1) := by decide +kernel
theorem dX1_passTick_14 : decode cX1_passTick 14 = .ok (.getfield 43, 3) := by decide +kernel
theorem dX1_passTick_17 : decode cX1_passTick 17 = .ok (.if_icmp .ge 36, 3) := by decide +kernel
theorem dX1_passTick_20 : decode cX1_passTick 20 = .ok (.aload_n 0, 1) := by decide +kernel
theorem dX1_passTick_21 : decode cX1_passTick 21 = .ok (.getfield 11, 3) := by decide +kernel
theorem dX1_passTick_24 : decode cX1_passTick 24 = .ok (.iload_n 1, 1) := by decide +kernel
theorem dX1_passTick_25 : decode cX1_passTick 25 = .ok (.aaload, 1) := by decide +kernel
theorem dX1_passTick_26 : decode cX1_passTick 26 = .ok (.getfield 98, 3) := by decide +kernel
theorem dX1_passTick_29 : decode cX1_passTick 29 = .ok (.ifCond .le 18, 3) := by decide +kernel
theorem dX1_passTick_32 : decode cX1_passTick 32 = .ok (.aload_n 0, 1) := by decide +kernel
theorem dX1_passTick_33 : decode cX1_passTick 33 = .ok (.getfield 11, 3) := by decide +kernel
theorem dX1_passTick_36 : decode cX1_passTick 36 = .ok (.iload_n 1, 1) := by decide +kernel
theorem dX1_passTick_37 : decode cX1_passTick 37 = .ok (.aaload, 1) := by decide +kernel
theorem dX1_passTick_38 : decode cX1_passTick 38 = .ok (.dup, 1) := by decide +kernel
theorem dX1_passTick_39 : decode cX1_passTick 39 = .ok (.getfield 98, 3) := by decide +kernel
theorem dX1_passTick_42 : decode cX1_passTick 42 = .ok (.iconst 1, 1) := by decide +kernel
theorem dX1_passTick_43 : decode cX1_passTick 43 = .ok (.isub, 1) := by decide +kernel
theorem dX1_passTick_44 : decode cX1_passTick 44 = .ok (.putfield 98, 3) := by decide +kernel
theorem dX1_passTick_47 : decode cX1_passTick 47 = .ok (.iinc 1 1, 3) := by decide +kernel
theorem dX1_passTick_50 : decode cX1_passTick 50 = .ok (.goto (-38), 3) := by decide +kernel
theorem dX1_passTick_53 : decode cX1_passTick 53 = .ok (.return_, 1) := by decide +kernel
theorem dX1_impose_0 : decode cX1_impose 0 = .ok (.iload_n 1, 1) := by decide +kernel
theorem dX1_impose_1 : decode cX1_impose 1 = .ok (.iconst 4, 1) := by decide +kernel
theorem dX1_impose_2 : decode cX1_impose 2 = .ok (.if_icmp .ne 8, 3) := by decide +kernel
theorem dX1_impose_5 : decode cX1_impose 5 = .ok (.aload_n 0, 1) := by decide +kernel
theorem dX1_impose_6 : decode cX1_impose 6 = .ok (.iconst 1, 1) := by decide +kernel
theorem dX1_impose_7 : decode cX1_impose 7 = .ok (.putfield 29, 3) := by decide +kernel
theorem dX1_impose_10 : decode cX1_impose 10 = .ok (.iconst 0, 1) := by decide +kernel
theorem dX1_impose_11 : decode cX1_impose 11 = .ok (.istore_n 2, 1) := by decide +kernel
theorem dX1_impose_12 : decode cX1_impose 12 = .ok (.iload_n 2, 1) := by decide +kernel
theorem dX1_impose_13 : decode cX1_impose 13 = .ok (.aload_n 0, 1) := by decide +kernel
theorem dX1_impose_14 : decode cX1_impose 14 = .ok (.getfield 53, 3) := by decide +kernel
theorem dX1_impose_17 : decode cX1_impose 17 = .ok (.if_icmp .ge 41, 3) := by decide +kernel
theorem dX1_impose_20 : decode cX1_impose 20 = .ok (.iload_n 1, 1) := by decide +kernel
theorem dX1_impose_21 : decode cX1_impose 21 = .ok (.ifCond .ne 16, 3) := by decide +kernel
theorem dX1_impose_24 : decode cX1_impose 24 = .ok (.aload_n 0, 1) := by decide +kernel
theorem dX1_impose_25 : decode cX1_impose 25 = .ok (.getfield 25, 3) := by decide +kernel
theorem dX1_impose_28 : decode cX1_impose 28 = .ok (.iload_n 2, 1) := by decide +kernel
theorem dX1_impose_29 : decode cX1_impose 29 = .ok (.aaload, 1) := by decide +kernel
theorem dX1_impose_30 : decode cX1_impose 30 = .ok (.iconst (-1), 1) := by decide +kernel
theorem dX1_impose_31 : decode cX1_impose 31 = .ok (.putfield 101, 3) := by decide +kernel
theorem dX1_impose_34 : decode cX1_impose 34 = .ok (.goto 18, 3) := by decide +kernel
theorem dX1_impose_37 : decode cX1_impose 37 = .ok (.iload_n 1, 1) := by decide +kernel
theorem dX1_impose_38 : decode cX1_impose 38 = .ok (.iconst 1, 1) := by decide +kernel
theorem dX1_impose_39 : decode cX1_impose 39 = .ok (.if_icmp .ne 13, 3) := by decide +kernel
theorem dX1_impose_42 : decode cX1_impose 42 = .ok (.aload_n 0, 1) := by decide +kernel
theorem dX1_impose_43 : decode cX1_impose 43 = .ok (.getfield 25, 3) := by decide +kernel
theorem dX1_impose_46 : decode cX1_impose 46 = .ok (.iload_n 2, 1) := by decide +kernel
theorem dX1_impose_47 : decode cX1_impose 47 = .ok (.aaload, 1) := by decide +kernel
theorem dX1_impose_48 : decode cX1_impose 48 = .ok (.iconst 1, 1) := by decide +kernel
theorem dX1_impose_49 : decode cX1_impose 49 = .ok (.putfield 104, 3) := by decide +kernel
theorem dX1_impose_52 : decode cX1_impose 52 = .ok (.iinc 2 1, 3) := by decide +kernel
theorem dX1_impose_55 : decode cX1_impose 55 = .ok (.goto (-43), 3) := by decide +kernel
theorem dX1_impose_58 : decode cX1_impose 58 = .ok (.iconst 0, 1) := by decide +kernel
theorem dX1_impose_59 : decode cX1_impose 59 = .ok (.istore_n 2, 1) := by decide +kernel
theorem dX1_impose_60 : decode cX1_impose 60 = .ok (.iload_n 2, 1) := by decide +kernel
theorem dX1_impose_61 : decode cX1_impose 61 = .ok (.iconst 4, 1) := by decide +kernel
theorem dX1_impose_62 : decode cX1_impose 62 = .ok (.if_icmp .ge 43, 3) := by decide +kernel
theorem dX1_impose_65 : decode cX1_impose 65 = .ok (.iload_n 1, 1) := by decide +kernel
theorem dX1_impose_66 : decode cX1_impose 66 = .ok (.iconst 2, 1) := by decide +kernel
theorem dX1_impose_67 : decode cX1_impose 67 = .ok (.if_icmp .ne 17, 3) := by decide +kernel
theorem dX1_impose_70 : decode cX1_impose 70 = .ok (.aload_n 0, 1) := by decide +kernel
theorem dX1_impose_71 : decode cX1_impose 71 = .ok (.getfield 19, 3) := by decide +kernel
theorem dX1_impose_74 : decode cX1_impose 74 = .ok (.iload_n 2, 1) := by decide +kernel
theorem dX1_impose_75 : decode cX1_impose 75 = .ok (.aaload, 1) := by decide +kernel
theorem dX1_impose_76 : decode cX1_impose 76 = .ok (.ldc 107, 2) := by decide +kernel
theorem dX1_impose_78 : decode cX1_impose 78 = .ok (.putfield 108, 3) := by decide +kernel
theorem dX1_impose_81 : decode cX1_impose 81 = .ok (.goto 18, 3) := by decide +kernel
theorem dX1_impose_84 : decode cX1_impose 84 = .ok (.iload_n 1, 1) := by decide +kernel
theorem dX1_impose_85 : decode cX1_impose 85 = .ok (.iconst 3, 1) := by decide +kernel
theorem dX1_impose_86 : decode cX1_impose 86 = .ok (.if_icmp .ne 13, 3) := by decide +kernel
theorem dX1_impose_89 : decode cX1_impose 89 = .ok (.aload_n 0, 1) := by decide +kernel
theorem dX1_impose_90 : decode cX1_impose 90 = .ok (.getfield 19, 3) := by decide +kernel
theorem dX1_impose_93 : decode cX1_impose 93 = .ok (.iload_n 2, 1) := by decide +kernel
theorem dX1_impose_94 : decode cX1_impose 94 = .ok (.aaload, 1) := by decide +kernel
theorem dX1_impose_95 : decode cX1_impose 95 = .ok (.iconst 0, 1) := by decide +kernel
theorem dX1_impose_96 : decode cX1_impose 96 = .ok (.putfield 111, 3) := by decide +kernel
theorem dX1_impose_99 : decode cX1_impose 99 = .ok (.iinc 2 1, 3) := by decide +kernel
theorem dX1_impose_102 : decode cX1_impose 102 = .ok (.goto (-42), 3) := by decide +kernel
theorem dX1_impose_105 : decode cX1_impose 105 = .ok (.return_, 1) := by decide +kernel
theorem dX1_answer_0 : decode cX1_answer 0 = .ok (.aload_n 0, 1) := by decide +kernel
theorem dX1_answer_1 : decode cX1_answer 1 = .ok (.getfield 36, 3) := by decide +kernel
theorem dX1_answer_4 : decode cX1_answer 4 = .ok (.iconst 0, 1) := by decide +kernel
theorem dX1_answer_5 : decode cX1_answer 5 = .ok (.putfield 114, 3) := by decide +kernel
theorem dX1_answer_8 : decode cX1_answer 8 = .ok (.bipush (-4), 2) := by decide +kernel
theorem dX1_answer_10 : decode cX1_answer 10 = .ok (.istore 4, 2) := by decide +kernel
theorem dX1_answer_12 : decode cX1_answer 12 = .ok (.aload_n 0, 1) := by decide +kernel
theorem dX1_answer_13 : decode cX1_answer 13 = .ok (.iload_n 1, 1) := by decide +kernel
theorem dX1_answer_14 : decode cX1_answer 14 = .ok (.invokevirtual 117, 3) := by decide +kernel
theorem dX1_answer_17 : decode cX1_answer 17 = .ok (.ifCond .eq 58, 3) := by decide +kernel
theorem dX1_answer_20 : decode cX1_answer 20 = .ok (.aload_n 0, 1) := by decide +kernel
theorem dX1_answer_21 : decode cX1_answer 21 = .ok (.aload_n 0, 1) := by decide +kernel
theorem dX1_answer_22 : decode cX1_answer 22 = .ok (.getfield 25, 3) := by decide +kernel
theorem dX1_answer_25 : decode cX1_answer 25 = .ok (.iload_n 1, 1) := by decide +kernel
theorem dX1_answer_26 : decode cX1_answer 26 = .ok (.aaload, 1) := by decide +kernel
theorem dX1_answer_27 : decode cX1_answer 27 = .ok (.invokevirtual 121, 3) := by decide +kernel
theorem dX1_answer_30 : decode cX1_answer 30 = .ok (.istore 5, 2) := by decide +kernel
theorem dX1_answer_32 : decode cX1_answer 32 = .ok (.iload 5, 2) := by decide +kernel
theorem dX1_answer_34 : decode cX1_answer 34 = .ok (.iconst (-1), 1) := by decide +kernel
theorem dX1_answer_35 : decode cX1_answer 35 = .ok (.if_icmp .ne 8, 3) := by decide +kernel
theorem dX1_answer_38 : decode cX1_answer 38 = .ok (.bipush (-5), 2) := by decide +kernel
theorem dX1_answer_40 : decode cX1_answer 40 = .ok (.goto 20, 3) := by decide +kernel
theorem dX1_answer_43 : decode cX1_answer 43 = .ok (.aload_n 0, 1) := by decide +kernel
theorem dX1_answer_44 : decode cX1_answer 44 = .ok (.iload 5, 2) := by decide +kernel
theorem dX1_answer_46 : decode cX1_answer 46 = .ok (.aload_n 0, 1) := by decide +kernel
theorem dX1_answer_47 : decode cX1_answer 47 = .ok (.getfield 25, 3) := by decide +kernel
theorem dX1_answer_50 : decode cX1_answer 50 = .ok (.iload_n 1, 1) := by decide +kernel
theorem dX1_answer_51 : decode cX1_answer 51 = .ok (.aaload, 1) := by decide +kernel
theorem dX1_answer_52 : decode cX1_answer 52 = .ok (.getfield 104, 3) := by decide +kernel
theorem dX1_answer_55 : decode cX1_answer 55 = .ok (.iload_n 2, 1) := by decide +kernel
theorem dX1_answer_56 : decode cX1_answer 56 = .ok (.iload_n 3, 1) := by decide +kernel
theorem dX1_answer_57 : decode cX1_answer 57 = .ok (.invokevirtual 125, 3) := by decide +kernel
theorem dX1_answer_60 : decode cX1_answer 60 = .ok (.istore 4, 2) := by decide +kernel
theorem dX1_answer_62 : decode cX1_answer 62 = .ok (.aload_n 0, 1) := by decide +kernel
theorem dX1_answer_63 : decode cX1_answer 63 = .ok (.aload_n 0, 1) := by decide +kernel
theorem dX1_answer_64 : decode cX1_answer 64 = .ok (.getfield 25, 3) := by decide +kernel
theorem dX1_answer_67 : decode cX1_answer 67 = .ok (.iload_n 1, 1) := by decide +kernel
theorem dX1_answer_68 : decode cX1_answer 68 = .ok (.aaload, 1) := by decide +kernel
theorem dX1_answer_69 : decode cX1_answer 69 = .ok (.getfield 101, 3) := by decide +kernel
theorem dX1_answer_72 : decode cX1_answer 72 = .ok (.invokevirtual 129, 3) := by decide +kernel
theorem dX1_answer_75 : decode cX1_answer 75 = .ok (.aload_n 0, 1) := by decide +kernel
theorem dX1_answer_76 : decode cX1_answer 76 = .ok (.iload 4, 2) := by decide +kernel
theorem dX1_answer_78 : decode cX1_answer 78 = .ok (.invokevirtual 133, 3) := by decide +kernel
theorem dX1_answer_81 : decode cX1_answer 81 = .ok (.iload 4, 2) := by decide +kernel
theorem dX1_answer_83 : decode cX1_answer 83 = .ok (.ireturn, 1) := by decide +kernel
theorem dX1_tally_0 : decode cX1_tally 0 = .ok (.aload_n 0, 1) := by decide +kernel
theorem dX1_tally_1 : decode cX1_tally 1 = .ok (.dup, 1) := by decide +kernel
theorem dX1_tally_2 : decode cX1_tally 2 = .ok (.getfield 62, 3) := by decide +kernel
theorem dX1_tally_5 : decode cX1_tally 5 = .ok (.iconst 1, 1) := by decide +kernel
theorem dX1_tally_6 : decode cX1_tally 6 = .ok (.iadd, 1) := by decide +kernel
theorem dX1_tally_7 : decode cX1_tally 7 = .ok (.putfield 62, 3) := by decide +kernel
theorem dX1_tally_10 : decode cX1_tally 10 = .ok (.iload_n 1, 1) := by decide +kernel
theorem dX1_tally_11 : decode cX1_tally 11 = .ok (.tableswitch 64 (-6) (-4) #[51, 38, 25], 25) := by decide +kernel
theorem dX1_tally_36 : decode cX1_tally 36 = .ok (.aload_n 0, 1) := by decide +kernel
theorem dX1_tally_37 : decode cX1_tally 37 = .ok (.dup, 1) := by decide +kernel
theorem dX1_tally_38 : decode cX1_tally 38 = .ok (.getfield 68, 3) := by decide +kernel
theorem dX1_tally_41 : decode cX1_tally 41 = .ok (.iconst 1, 1) := by decide +kernel
theorem dX1_tally_42 : decode cX1_tally 42 = .ok (.iadd, 1) := by decide +kernel
theorem dX1_tally_43 : decode cX1_tally 43 = .ok (.putfield 68, 3) := by decide +kernel
theorem dX1_tally_46 : decode cX1_tally 46 = .ok (.goto 39, 3) := by decide +kernel
theorem dX1_tally_49 : decode cX1_tally 49 = .ok (.aload_n 0, 1) := by decide +kernel
theorem dX1_tally_50 : decode cX1_tally 50 = .ok (.dup, 1) := by decide +kernel
theorem dX1_tally_51 : decode cX1_tally 51 = .ok (.getfield 71, 3) := by decide +kernel
theorem dX1_tally_54 : decode cX1_tally 54 = .ok (.iconst 1, 1) := by decide +kernel
theorem dX1_tally_55 : decode cX1_tally 55 = .ok (.iadd, 1) := by decide +kernel
theorem dX1_tally_56 : decode cX1_tally 56 = .ok (.putfield 71, 3) := by decide +kernel
theorem dX1_tally_59 : decode cX1_tally 59 = .ok (.goto 26, 3) := by decide +kernel
theorem dX1_tally_62 : decode cX1_tally 62 = .ok (.aload_n 0, 1) := by decide +kernel
theorem dX1_tally_63 : decode cX1_tally 63 = .ok (.dup, 1) := by decide +kernel
theorem dX1_tally_64 : decode cX1_tally 64 = .ok (.getfield 74, 3) := by decide +kernel
theorem dX1_tally_67 : decode cX1_tally 67 = .ok (.iconst 1, 1) := by decide +kernel
theorem dX1_tally_68 : decode cX1_tally 68 = .ok (.iadd, 1) := by decide +kernel
theorem dX1_tally_69 : decode cX1_tally 69 = .ok (.putfield 74, 3) := by decide +kernel
theorem dX1_tally_72 : decode cX1_tally 72 = .ok (.goto 13, 3) := by decide +kernel
theorem dX1_tally_75 : decode cX1_tally 75 = .ok (.aload_n 0, 1) := by decide +kernel
theorem dX1_tally_76 : decode cX1_tally 76 = .ok (.dup, 1) := by decide +kernel
theorem dX1_tally_77 : decode cX1_tally 77 = .ok (.getfield 65, 3) := by decide +kernel
theorem dX1_tally_80 : decode cX1_tally 80 = .ok (.iconst 1, 1) := by decide +kernel
theorem dX1_tally_81 : decode cX1_tally 81 = .ok (.iadd, 1) := by decide +kernel
theorem dX1_tally_82 : decode cX1_tally 82 = .ok (.putfield 65, 3) := by decide +kernel
theorem dX1_tally_85 : decode cX1_tally 85 = .ok (.return_, 1) := by decide +kernel
theorem dX1_chooseService_0 : decode cX1_chooseService 0 = .ok (.iconst 0, 1) := by decide +kernel
theorem dX1_chooseService_1 : decode cX1_chooseService 1 = .ok (.istore_n 2, 1) := by decide +kernel
theorem dX1_chooseService_2 : decode cX1_chooseService 2 = .ok (.iload_n 2, 1) := by decide +kernel
theorem dX1_chooseService_3 : decode cX1_chooseService 3 = .ok (.aload_n 1, 1) := by decide +kernel
theorem dX1_chooseService_4 : decode cX1_chooseService 4 = .ok (.getfield 136, 3) := by decide +kernel
theorem dX1_chooseService_7 : decode cX1_chooseService 7 = .ok (.if_icmp .ge 31, 3) := by decide +kernel
theorem dX1_chooseService_10 : decode cX1_chooseService 10 = .ok (.aload_n 1, 1) := by decide +kernel
theorem dX1_chooseService_11 : decode cX1_chooseService 11 = .ok (.getfield 139, 3) := by decide +kernel
theorem dX1_chooseService_14 : decode cX1_chooseService 14 = .ok (.iload_n 2, 1) := by decide +kernel
theorem dX1_chooseService_15 : decode cX1_chooseService 15 = .ok (.aaload, 1) := by decide +kernel
theorem dX1_chooseService_16 : decode cX1_chooseService 16 = .ok (.aload_n 0, 1) := by decide +kernel
theorem dX1_chooseService_17 : decode cX1_chooseService 17 = .ok (.aload_n 1, 1) := by decide +kernel
theorem dX1_chooseService_18 : decode cX1_chooseService 18 = .ok (.getfield 139, 3) := by decide +kernel
theorem dX1_chooseService_21 : decode cX1_chooseService 21 = .ok (.iload_n 2, 1) := by decide +kernel
theorem dX1_chooseService_22 : decode cX1_chooseService 22 = .ok (.aaload, 1) := by decide +kernel
theorem dX1_chooseService_23 : decode cX1_chooseService 23 = .ok (.getfield 143, 3) := by decide +kernel
theorem dX1_chooseService_26 : decode cX1_chooseService 26 = .ok (.invokevirtual 148, 3) := by decide +kernel
theorem dX1_chooseService_29 : decode cX1_chooseService 29 = .ok (.putfield 151, 3) := by decide +kernel
theorem dX1_chooseService_32 : decode cX1_chooseService 32 = .ok (.iinc 2 1, 3) := by decide +kernel
theorem dX1_chooseService_35 : decode cX1_chooseService 35 = .ok (.goto (-33), 3) := by decide +kernel
theorem dX1_chooseService_38 : decode cX1_chooseService 38 = .ok (.aload_n 1, 1) := by decide +kernel
theorem dX1_chooseService_39 : decode cX1_chooseService 39 = .ok (.getfield 139, 3) := by decide +kernel
theorem dX1_chooseService_42 : decode cX1_chooseService 42 = .ok (.aload_n 1, 1) := by decide +kernel
theorem dX1_chooseService_43 : decode cX1_chooseService 43 = .ok (.getfield 136, 3) := by decide +kernel
theorem dX1_chooseService_46 : decode cX1_chooseService 46 = .ok (.invokestatic 155, 3) := by decide +kernel
theorem dX1_chooseService_49 : decode cX1_chooseService 49 = .ok (.istore_n 2, 1) := by decide +kernel
theorem dX1_chooseService_50 : decode cX1_chooseService 50 = .ok (.iload_n 2, 1) := by decide +kernel
theorem dX1_chooseService_51 : decode cX1_chooseService 51 = .ok (.iconst (-1), 1) := by decide +kernel
theorem dX1_chooseService_52 : decode cX1_chooseService 52 = .ok (.if_icmp .ne 5, 3) := by decide +kernel
theorem dX1_chooseService_55 : decode cX1_chooseService 55 = .ok (.iconst (-1), 1) := by decide +kernel
theorem dX1_chooseService_56 : decode cX1_chooseService 56 = .ok (.ireturn, 1) := by decide +kernel
theorem dX1_chooseService_57 : decode cX1_chooseService 57 = .ok (.aload_n 1, 1) := by decide +kernel
theorem dX1_chooseService_58 : decode cX1_chooseService 58 = .ok (.getfield 139, 3) := by decide +kernel
theorem dX1_chooseService_61 : decode cX1_chooseService 61 = .ok (.iload_n 2, 1) := by decide +kernel
theorem dX1_chooseService_62 : decode cX1_chooseService 62 = .ok (.aaload, 1) := by decide +kernel
theorem dX1_chooseService_63 : decode cX1_chooseService 63 = .ok (.dup, 1) := by decide +kernel
theorem dX1_chooseService_64 : decode cX1_chooseService 64 = .ok (.getfield 161, 3) := by decide +kernel
theorem dX1_chooseService_67 : decode cX1_chooseService 67 = .ok (.iconst 1, 1) := by decide +kernel
theorem dX1_chooseService_68 : decode cX1_chooseService 68 = .ok (.iadd, 1) := by decide +kernel
theorem dX1_chooseService_69 : decode cX1_chooseService 69 = .ok (.putfield 161, 3) := by decide +kernel
theorem dX1_chooseService_72 : decode cX1_chooseService 72 = .ok (.aload_n 1, 1) := by decide +kernel
theorem dX1_chooseService_73 : decode cX1_chooseService 73 = .ok (.getfield 139, 3) := by decide +kernel
theorem dX1_chooseService_76 : decode cX1_chooseService 76 = .ok (.iload_n 2, 1) := by decide +kernel
theorem dX1_chooseService_77 : decode cX1_chooseService 77 = .ok (.aaload, 1) := by decide +kernel
theorem dX1_chooseService_78 : decode cX1_chooseService 78 = .ok (.getfield 143, 3) := by decide +kernel
theorem dX1_chooseService_81 : decode cX1_chooseService 81 = .ok (.ireturn, 1) := by decide +kernel
theorem dX1_hasAvailable_0 : decode cX1_hasAvailable 0 = .ok (.iconst 0, 1) := by decide +kernel
theorem dX1_hasAvailable_1 : decode cX1_hasAvailable 1 = .ok (.istore_n 2, 1) := by decide +kernel
theorem dX1_hasAvailable_2 : decode cX1_hasAvailable 2 = .ok (.iload_n 2, 1) := by decide +kernel
theorem dX1_hasAvailable_3 : decode cX1_hasAvailable 3 = .ok (.aload_n 0, 1) := by decide +kernel
theorem dX1_hasAvailable_4 : decode cX1_hasAvailable 4 = .ok (.getfield 43, 3) := by decide +kernel
theorem dX1_hasAvailable_7 : decode cX1_hasAvailable 7 = .ok (.if_icmp .ge 24, 3) := by decide +kernel
theorem dX1_hasAvailable_10 : decode cX1_hasAvailable 10 = .ok (.aload_n 0, 1) := by decide +kernel
theorem dX1_hasAvailable_11 : decode cX1_hasAvailable 11 = .ok (.getfield 11, 3) := by decide +kernel
theorem dX1_hasAvailable_14 : decode cX1_hasAvailable 14 = .ok (.iload_n 2, 1) := by decide +kernel
theorem dX1_hasAvailable_15 : decode cX1_hasAvailable 15 = .ok (.aaload, 1) := by decide +kernel
theorem dX1_hasAvailable_16 : decode cX1_hasAvailable 16 = .ok (.iload_n 1, 1) := by decide +kernel
theorem dX1_hasAvailable_17 : decode cX1_hasAvailable 17 = .ok (.invokevirtual 164, 3) := by decide +kernel
theorem dX1_hasAvailable_20 : decode cX1_hasAvailable 20 = .ok (.ifCond .eq 5, 3) := by decide +kernel
theorem dX1_hasAvailable_23 : decode cX1_hasAvailable 23 = .ok (.iconst 1, 1) := by decide +kernel
theorem dX1_hasAvailable_24 : decode cX1_hasAvailable 24 = .ok (.ireturn, 1) := by decide +kernel
theorem dX1_hasAvailable_25 : decode cX1_hasAvailable 25 = .ok (.iinc 2 1, 3) := by decide +kernel
theorem dX1_hasAvailable_28 : decode cX1_hasAvailable 28 = .ok (.goto (-26), 3) := by decide +kernel
theorem dX1_hasAvailable_31 : decode cX1_hasAvailable 31 = .ok (.iconst 0, 1) := by decide +kernel
theorem dX1_hasAvailable_32 : decode cX1_hasAvailable 32 = .ok (.ireturn, 1) := by decide +kernel
theorem dX1_serve_0 : decode cX1_serve 0 = .ok (.aload_n 0, 1) := by decide +kernel
theorem dX1_serve_1 : decode cX1_serve 1 = .ok (.getfield 19, 3) := by decide +kernel
theorem dX1_serve_4 : decode cX1_serve 4 = .ok (.iload_n 1, 1) := by decide +kernel
theorem dX1_serve_5 : decode cX1_serve 5 = .ok (.aaload, 1) := by decide +kernel
theorem dX1_serve_6 : decode cX1_serve 6 = .ok (.dup, 1) := by decide +kernel
theorem dX1_serve_7 : decode cX1_serve 7 = .ok (.getfield 167, 3) := by decide +kernel
theorem dX1_serve_10 : decode cX1_serve 10 = .ok (.iconst 1, 1) := by decide +kernel
theorem dX1_serve_11 : decode cX1_serve 11 = .ok (.iadd, 1) := by decide +kernel
theorem dX1_serve_12 : decode cX1_serve 12 = .ok (.putfield 167, 3) := by decide +kernel
theorem dX1_serve_15 : decode cX1_serve 15 = .ok (.aload_n 0, 1) := by decide +kernel
theorem dX1_serve_16 : decode cX1_serve 16 = .ok (.getfield 19, 3) := by decide +kernel
theorem dX1_serve_19 : decode cX1_serve 19 = .ok (.iload_n 1, 1) := by decide +kernel
theorem dX1_serve_20 : decode cX1_serve 20 = .ok (.aaload, 1) := by decide +kernel
theorem dX1_serve_21 : decode cX1_serve 21 = .ok (.invokevirtual 170, 3) := by decide +kernel
theorem dX1_serve_24 : decode cX1_serve 24 = .ok (.iconst 0, 1) := by decide +kernel
theorem dX1_serve_25 : decode cX1_serve 25 = .ok (.istore 5, 2) := by decide +kernel
theorem dX1_serve_27 : decode cX1_serve 27 = .ok (.iload 5, 2) := by decide +kernel
theorem dX1_serve_29 : decode cX1_serve 29 = .ok (.aload_n 0, 1) := by decide +kernel
theorem dX1_serve_30 : decode cX1_serve 30 = .ok (.getfield 43, 3) := by decide +kernel
theorem dX1_serve_33 : decode cX1_serve 33 = .ok (.if_icmp .ge 20, 3) := by decide +kernel
theorem dX1_serve_36 : decode cX1_serve 36 = .ok (.aload_n 0, 1) := by decide +kernel
theorem dX1_serve_37 : decode cX1_serve 37 = .ok (.getfield 11, 3) := by decide +kernel
theorem dX1_serve_40 : decode cX1_serve 40 = .ok (.iload 5, 2) := by decide +kernel
theorem dX1_serve_42 : decode cX1_serve 42 = .ok (.aaload, 1) := by decide +kernel
theorem dX1_serve_43 : decode cX1_serve 43 = .ok (.iconst 0, 1) := by decide +kernel
theorem dX1_serve_44 : decode cX1_serve 44 = .ok (.putfield 173, 3) := by decide +kernel
theorem dX1_serve_47 : decode cX1_serve 47 = .ok (.iinc 5 1, 3) := by decide +kernel
theorem dX1_serve_50 : decode cX1_serve 50 = .ok (.goto (-23), 3) := by decide +kernel
theorem dX1_serve_53 : decode cX1_serve 53 = .ok (.aload_n 0, 1) := by decide +kernel
theorem dX1_serve_54 : decode cX1_serve 54 = .ok (.iload_n 1, 1) := by decide +kernel
theorem dX1_serve_55 : decode cX1_serve 55 = .ok (.invokevirtual 176, 3) := by decide +kernel
theorem dX1_serve_58 : decode cX1_serve 58 = .ok (.istore 5, 2) := by decide +kernel
theorem dX1_serve_60 : decode cX1_serve 60 = .ok (.iconst 0, 1) := by decide +kernel
theorem dX1_serve_61 : decode cX1_serve 61 = .ok (.istore 6, 2) := by decide +kernel
theorem dX1_serve_63 : decode cX1_serve 63 = .ok (.iload 6, 2) := by decide +kernel
theorem dX1_serve_65 : decode cX1_serve 65 = .ok (.iload_n 2, 1) := by decide +kernel
theorem dX1_serve_66 : decode cX1_serve 66 = .ok (.if_icmp .ge 103, 3) := by decide +kernel
theorem dX1_serve_69 : decode cX1_serve 69 = .ok (.iload 5, 2) := by decide +kernel
theorem dX1_serve_71 : decode cX1_serve 71 = .ok (.ifCond .eq 98, 3) := by decide +kernel
theorem dX1_serve_74 : decode cX1_serve 74 = .ok (.iload 6, 2) := by decide +kernel
theorem dX1_serve_76 : decode cX1_serve 76 = .ok (.ifCond .le 19, 3) := by decide +kernel
theorem dX1_serve_79 : decode cX1_serve 79 = .ok (.aload_n 0, 1) := by decide +kernel
theorem dX1_serve_80 : decode cX1_serve 80 = .ok (.getfield 19, 3) := by decide +kernel
theorem dX1_serve_83 : decode cX1_serve 83 = .ok (.iload_n 1, 1) := by decide +kernel
theorem dX1_serve_84 : decode cX1_serve 84 = .ok (.aaload, 1) := by decide +kernel
theorem dX1_serve_85 : decode cX1_serve 85 = .ok (.dup, 1) := by decide +kernel
theorem dX1_serve_86 : decode cX1_serve 86 = .ok (.getfield 179, 3) := by decide +kernel
theorem dX1_serve_89 : decode cX1_serve 89 = .ok (.bipush 100, 2) := by decide +kernel
theorem dX1_serve_91 : decode cX1_serve 91 = .ok (.isub, 1) := by decide +kernel
theorem dX1_serve_92 : decode cX1_serve 92 = .ok (.putfield 179, 3) := by decide +kernel
theorem dX1_serve_95 : decode cX1_serve 95 = .ok (.aload_n 0, 1) := by decide +kernel
theorem dX1_serve_96 : decode cX1_serve 96 = .ok (.iload_n 1, 1) := by decide +kernel
theorem dX1_serve_97 : decode cX1_serve 97 = .ok (.iload_n 3, 1) := by decide +kernel
theorem dX1_serve_98 : decode cX1_serve 98 = .ok (.iload 4, 2) := by decide +kernel
theorem dX1_serve_100 : decode cX1_serve 100 = .ok (.invokevirtual 182, 3) := by decide +kernel
theorem dX1_serve_103 : decode cX1_serve 103 = .ok (.istore 7, 2) := by decide +kernel
theorem dX1_serve_105 : decode cX1_serve 105 = .ok (.aload_n 0, 1) := by decide +kernel
theorem dX1_serve_106 : decode cX1_serve 106 = .ok (.iload 7, 2) := by decide +kernel
theorem dX1_serve_108 : decode cX1_serve 108 = .ok (.iload 4, 2) := by decide +kernel
theorem dX1_serve_110 : decode cX1_serve 110 = .ok (.invokevirtual 186, 3) := by decide +kernel
theorem dX1_serve_113 : decode cX1_serve 113 = .ok (.ifCond .eq 21, 3) := by decide +kernel
theorem dX1_serve_116 : decode cX1_serve 116 = .ok (.aload_n 0, 1) := by decide +kernel
theorem dX1_serve_117 : decode cX1_serve 117 = .ok (.getfield 19, 3) := by decide +kernel
theorem dX1_serve_120 : decode cX1_serve 120 = .ok (.iload_n 1, 1) := by decide +kernel
theorem dX1_serve_121 : decode cX1_serve 121 = .ok (.aaload, 1) := by decide +kernel
theorem dX1_serve_122 : decode cX1_serve 122 = .ok (.dup, 1) := by decide +kernel
theorem dX1_serve_123 : decode cX1_serve 123 = .ok (.getfield 190, 3) := by decide +kernel
theorem dX1_serve_126 : decode cX1_serve 126 = .ok (.iconst 1, 1) := by decide +kernel
theorem dX1_serve_127 : decode cX1_serve 127 = .ok (.iadd, 1) := by decide +kernel
theorem dX1_serve_128 : decode cX1_serve 128 = .ok (.putfield 190, 3) := by decide +kernel
theorem dX1_serve_131 : decode cX1_serve 131 = .ok (.iload 7, 2) := by decide +kernel
theorem dX1_serve_133 : decode cX1_serve 133 = .ok (.ireturn, 1) := by decide +kernel
theorem dX1_serve_134 : decode cX1_serve 134 = .ok (.aload_n 0, 1) := by decide +kernel
theorem dX1_serve_135 : decode cX1_serve 135 = .ok (.iload_n 1, 1) := by decide +kernel
theorem dX1_serve_136 : decode cX1_serve 136 = .ok (.invokevirtual 176, 3) := by decide +kernel
theorem dX1_serve_139 : decode cX1_serve 139 = .ok (.ifCond .eq 21, 3) := by decide +kernel
theorem dX1_serve_142 : decode cX1_serve 142 = .ok (.aload_n 0, 1) := by decide +kernel
theorem dX1_serve_143 : decode cX1_serve 143 = .ok (.getfield 19, 3) := by decide +kernel
theorem dX1_serve_146 : decode cX1_serve 146 = .ok (.iload_n 1, 1) := by decide +kernel
theorem dX1_serve_147 : decode cX1_serve 147 = .ok (.aaload, 1) := by decide +kernel
theorem dX1_serve_148 : decode cX1_serve 148 = .ok (.getfield 179, 3) := by decide +kernel
theorem dX1_serve_151 : decode cX1_serve 151 = .ok (.bipush 100, 2) := by decide +kernel
theorem dX1_serve_153 : decode cX1_serve 153 = .ok (.if_icmp .lt 7, 3) := by decide +kernel
theorem dX1_serve_156 : decode cX1_serve 156 = .ok (.iconst 1, 1) := by decide +kernel
theorem dX1_serve_157 : decode cX1_serve 157 = .ok (.goto 4, 3) := by decide +kernel
theorem dX1_serve_160 : decode cX1_serve 160 = .ok (.iconst 0, 1) := by decide +kernel
theorem dX1_serve_161 : decode cX1_serve 161 = .ok (.istore 5, 2) := by decide +kernel
theorem dX1_serve_163 : decode cX1_serve 163 = .ok (.iinc 6 1, 3) := by decide +kernel
theorem dX1_serve_166 : decode cX1_serve 166 = .ok (.goto (-103), 3) := by decide +kernel
theorem dX1_serve_169 : decode cX1_serve 169 = .ok (.bipush (-6), 2) := by decide +kernel
theorem dX1_serve_171 : decode cX1_serve 171 = .ok (.ireturn, 1) := by decide +kernel
theorem dX1_gatherCandidates_0 : decode cX1_gatherCandidates 0 = .ok (.iconst 0, 1) := by decide +kernel
theorem dX1_gatherCandidates_1 : decode cX1_gatherCandidates 1 = .ok (.istore_n 2, 1) := by decide +kernel
theorem dX1_gatherCandidates_2 : decode cX1_gatherCandidates 2 = .ok (.iconst 0, 1) := by decide +kernel
theorem dX1_gatherCandidates_3 : decode cX1_gatherCandidates 3 = .ok (.istore_n 3, 1) := by decide +kernel
theorem dX1_gatherCandidates_4 : decode cX1_gatherCandidates 4 = .ok (.iload_n 3, 1) := by decide +kernel
theorem dX1_gatherCandidates_5 : decode cX1_gatherCandidates 5 = .ok (.aload_n 0, 1) := by decide +kernel
theorem dX1_gatherCandidates_6 : decode cX1_gatherCandidates 6 = .ok (.getfield 43, 3) := by decide +kernel
theorem dX1_gatherCandidates_9 : decode cX1_gatherCandidates 9 = .ok (.if_icmp .ge 62, 3) := by decide +kernel
theorem dX1_gatherCandidates_12 : decode cX1_gatherCandidates 12 = .ok (.aload_n 0, 1) := by decide +kernel
theorem dX1_gatherCandidates_13 : decode cX1_gatherCandidates 13 = .ok (.getfield 11, 3) := by decide +kernel
theorem dX1_gatherCandidates_16 : decode cX1_gatherCandidates 16 = .ok (.iload_n 3, 1) := by decide +kernel
theorem dX1_gatherCandidates_17 : decode cX1_gatherCandidates 17 = .ok (.aaload, 1) := by decide +kernel
theorem dX1_gatherCandidates_18 : decode cX1_gatherCandidates 18 = .ok (.astore 4, 2) := by decide +kernel
theorem dX1_gatherCandidates_20 : decode cX1_gatherCandidates 20 = .ok (.aload 4, 2) := by decide +kernel
theorem dX1_gatherCandidates_22 : decode cX1_gatherCandidates 22 = .ok (.aload 4, 2) := by decide +kernel
theorem dX1_gatherCandidates_24 : decode cX1_gatherCandidates 24 = .ok (.getfield 173, 3) := by decide +kernel
theorem dX1_gatherCandidates_27 : decode cX1_gatherCandidates 27 = .ok (.ifCond .ne 16, 3) := by decide +kernel
theorem dX1_gatherCandidates_30 : decode cX1_gatherCandidates 30 = .ok (.aload 4, 2) := by decide +kernel
theorem dX1_gatherCandidates_32 : decode cX1_gatherCandidates 32 = .ok (.iload_n 1, 1) := by decide +kernel
theorem dX1_gatherCandidates_33 : decode cX1_gatherCandidates 33 = .ok (.invokevirtual 164, 3) := by decide +kernel
theorem dX1_gatherCandidates_36 : decode cX1_gatherCandidates 36 = .ok (.ifCond .eq 7, 3) := by decide +kernel
theorem dX1_gatherCandidates_39 : decode cX1_gatherCandidates 39 = .ok (.iconst 1, 1) := by decide +kernel
theorem dX1_gatherCandidates_40 : decode cX1_gatherCandidates 40 = .ok (.goto 4, 3) := by decide +kernel
theorem dX1_gatherCandidates_43 : decode cX1_gatherCandidates 43 = .ok (.iconst 0, 1) := by decide +kernel
theorem dX1_gatherCandidates_44 : decode cX1_gatherCandidates 44 = .ok (.putfield 191, 3) := by decide +kernel
theorem dX1_gatherCandidates_47 : decode cX1_gatherCandidates 47 = .ok (.iload_n 2, 1) := by decide +kernel
theorem dX1_gatherCandidates_48 : decode cX1_gatherCandidates 48 = .ok (.ifCond .ne 11, 3) := by decide +kernel
theorem dX1_gatherCandidates_51 : decode cX1_gatherCandidates 51 = .ok (.aload 4, 2) := by decide +kernel
theorem dX1_gatherCandidates_53 : decode cX1_gatherCandidates 53 = .ok (.getfield 191, 3) := by decide +kernel
theorem dX1_gatherCandidates_56 : decode cX1_gatherCandidates 56 = .ok (.ifCond .eq 7, 3) := by decide +kernel
theorem dX1_gatherCandidates_59 : decode cX1_gatherCandidates 59 = .ok (.iconst 1, 1) := by decide +kernel
theorem dX1_gatherCandidates_60 : decode cX1_gatherCandidates 60 = .ok (.goto 4, 3) := by decide +kernel
theorem dX1_gatherCandidates_63 : decode cX1_gatherCandidates 63 = .ok (.iconst 0, 1) := by decide +kernel
theorem dX1_gatherCandidates_64 : decode cX1_gatherCandidates 64 = .ok (.istore_n 2, 1) := by decide +kernel
theorem dX1_gatherCandidates_65 : decode cX1_gatherCandidates 65 = .ok (.iinc 3 1, 3) := by decide +kernel
theorem dX1_gatherCandidates_68 : decode cX1_gatherCandidates 68 = .ok (.goto (-64), 3) := by decide +kernel
theorem dX1_gatherCandidates_71 : decode cX1_gatherCandidates 71 = .ok (.iload_n 2, 1) := by decide +kernel
theorem dX1_gatherCandidates_72 : decode cX1_gatherCandidates 72 = .ok (.ireturn, 1) := by decide +kernel
theorem dX1_pick_0 : decode cX1_pick 0 = .ok (.aload_n 0, 1) := by decide +kernel
theorem dX1_pick_1 : decode cX1_pick 1 = .ok (.iload_n 1, 1) := by decide +kernel
theorem dX1_pick_2 : decode cX1_pick 2 = .ok (.iload_n 3, 1) := by decide +kernel
theorem dX1_pick_3 : decode cX1_pick 3 = .ok (.invokevirtual 192, 3) := by decide +kernel
theorem dX1_pick_6 : decode cX1_pick 6 = .ok (.aload_n 0, 1) := by decide +kernel
theorem dX1_pick_7 : decode cX1_pick 7 = .ok (.getfield 19, 3) := by decide +kernel
theorem dX1_pick_10 : decode cX1_pick 10 = .ok (.iload_n 1, 1) := by decide +kernel
theorem dX1_pick_11 : decode cX1_pick 11 = .ok (.aaload, 1) := by decide +kernel
theorem dX1_pick_12 : decode cX1_pick 12 = .ok (.getfield 111, 3) := by decide +kernel
theorem dX1_pick_15 : decode cX1_pick 15 = .ok (.lookupswitch 42 #[(1, 25), (2, 30)], 25) := by decide +kernel
theorem dX1_pick_40 : decode cX1_pick 40 = .ok (.aload_n 0, 1) := by decide +kernel
theorem dX1_pick_41 : decode cX1_pick 41 = .ok (.invokevirtual 196, 3) := by decide +kernel
theorem dX1_pick_44 : decode cX1_pick 44 = .ok (.ireturn, 1) := by decide +kernel
theorem dX1_pick_45 : decode cX1_pick 45 = .ok (.aload_n 0, 1) := by decide +kernel
theorem dX1_pick_46 : decode cX1_pick 46 = .ok (.aload_n 0, 1) := by decide +kernel
theorem dX1_pick_47 : decode cX1_pick 47 = .ok (.getfield 19, 3) := by decide +kernel
theorem dX1_pick_50 : decode cX1_pick 50 = .ok (.iload_n 1, 1) := by decide +kernel
theorem dX1_pick_51 : decode cX1_pick 51 = .ok (.aaload, 1) := by decide +kernel
theorem dX1_pick_52 : decode cX1_pick 52 = .ok (.iload_n 2, 1) := by decide +kernel
theorem dX1_pick_53 : decode cX1_pick 53 = .ok (.invokevirtual 200, 3) := by decide +kernel
theorem dX1_pick_56 : decode cX1_pick 56 = .ok (.ireturn, 1) := by decide +kernel
theorem dX1_pick_57 : decode cX1_pick 57 = .ok (.aload_n 0, 1) := by decide +kernel
theorem dX1_pick_58 : decode cX1_pick 58 = .ok (.getfield 11, 3) := by decide +kernel
theorem dX1_pick_61 : decode cX1_pick 61 = .ok (.aload_n 0, 1) := by decide +kernel
theorem dX1_pick_62 : decode cX1_pick 62 = .ok (.getfield 43, 3) := by decide +kernel
theorem dX1_pick_65 : decode cX1_pick 65 = .ok (.invokestatic 155, 3) := by decide +kernel
theorem dX1_pick_68 : decode cX1_pick 68 = .ok (.ireturn, 1) := by decide +kernel
theorem dX1_narrow_0 : decode cX1_narrow 0 = .ok (.iconst 0, 1) := by decide +kernel
theorem dX1_narrow_1 : decode cX1_narrow 1 = .ok (.istore_n 3, 1) := by decide +kernel
theorem dX1_narrow_2 : decode cX1_narrow 2 = .ok (.iconst 0, 1) := by decide +kernel
theorem dX1_narrow_3 : decode cX1_narrow 3 = .ok (.istore 4, 2) := by decide +kernel
theorem dX1_narrow_5 : decode cX1_narrow 5 = .ok (.iconst 0, 1) := by decide +kernel
theorem dX1_narrow_6 : decode cX1_narrow 6 = .ok (.istore 5, 2) := by decide +kernel
theorem dX1_narrow_8 : decode cX1_narrow 8 = .ok (.iconst 0, 1) := by decide +kernel
theorem dX1_narrow_9 : decode cX1_narrow 9 = .ok (.istore 6, 2) := by decide +kernel
theorem dX1_narrow_11 : decode cX1_narrow 11 = .ok (.iload 6, 2) := by decide +kernel
theorem dX1_narrow_13 : decode cX1_narrow 13 = .ok (.aload_n 0, 1) := by decide +kernel
theorem dX1_narrow_14 : decode cX1_narrow 14 = .ok (.getfield 43, 3) := by decide +kernel
theorem dX1_narrow_17 : decode cX1_narrow 17 = .ok (.if_icmp .ge 92, 3) := by decide +kernel
theorem dX1_narrow_20 : decode cX1_narrow 20 = .ok (.aload_n 0, 1) := by decide +kernel
theorem dX1_narrow_21 : decode cX1_narrow 21 = .ok (.getfield 11, 3) := by decide +kernel
theorem dX1_narrow_24 : decode cX1_narrow 24 = .ok (.iload 6, 2) := by decide +kernel
theorem dX1_narrow_26 : decode cX1_narrow 26 = .ok (.aaload, 1) := by decide +kernel
theorem dX1_narrow_27 : decode cX1_narrow 27 = .ok (.astore 7, 2) := by decide +kernel
theorem dX1_narrow_29 : decode cX1_narrow 29 = .ok (.aload 7, 2) := by decide +kernel
theorem dX1_narrow_31 : decode cX1_narrow 31 = .ok (.getfield 191, 3) := by decide +kernel
theorem dX1_narrow_34 : decode cX1_narrow 34 = .ok (.ifCond .eq 23, 3) := by decide +kernel
theorem dX1_narrow_37 : decode cX1_narrow 37 = .ok (.aload 7, 2) := by decide +kernel
theorem dX1_narrow_39 : decode cX1_narrow 39 = .ok (.getfield 204, 3) := by decide +kernel
theorem dX1_narrow_42 : decode cX1_narrow 42 = .ok (.iload_n 2, 1) := by decide +kernel
theorem dX1_narrow_43 : decode cX1_narrow 43 = .ok (.if_icmp .ne 14, 3) := by decide +kernel
theorem dX1_narrow_46 : decode cX1_narrow 46 = .ok (.iload_n 3, 1) := by decide +kernel
theorem dX1_narrow_47 : decode cX1_narrow 47 = .ok (.aload 7, 2) := by decide +kernel
theorem dX1_narrow_49 : decode cX1_narrow 49 = .ok (.getfield 207, 3) := by decide +kernel
theorem dX1_narrow_52 : decode cX1_narrow 52 = .ok (.iadd, 1) := by decide +kernel
theorem dX1_narrow_53 : decode cX1_narrow 53 = .ok (.istore_n 3, 1) := by decide +kernel
theorem dX1_narrow_54 : decode cX1_narrow 54 = .ok (.goto 21, 3) := by decide +kernel
theorem dX1_narrow_57 : decode cX1_narrow 57 = .ok (.aload 7, 2) := by decide +kernel
theorem dX1_narrow_59 : decode cX1_narrow 59 = .ok (.getfield 191, 3) := by decide +kernel
theorem dX1_narrow_62 : decode cX1_narrow 62 = .ok (.ifCond .eq 13, 3) := by decide +kernel
theorem dX1_narrow_65 : decode cX1_narrow 65 = .ok (.iload 4, 2) := by decide +kernel
theorem dX1_narrow_67 : decode cX1_narrow 67 = .ok (.aload 7, 2) := by decide +kernel
theorem dX1_narrow_69 : decode cX1_narrow 69 = .ok (.getfield 207, 3) := by decide +kernel
theorem dX1_narrow_72 : decode cX1_narrow 72 = .ok (.iadd, 1) := by decide +kernel
theorem dX1_narrow_73 : decode cX1_narrow 73 = .ok (.istore 4, 2) := by decide +kernel
theorem dX1_narrow_75 : decode cX1_narrow 75 = .ok (.aload 7, 2) := by decide +kernel
theorem dX1_narrow_77 : decode cX1_narrow 77 = .ok (.iload_n 1, 1) := by decide +kernel
theorem dX1_narrow_78 : decode cX1_narrow 78 = .ok (.invokevirtual 210, 3) := by decide +kernel
theorem dX1_narrow_81 : decode cX1_narrow 81 = .ok (.ifCond .eq 22, 3) := by decide +kernel
theorem dX1_narrow_84 : decode cX1_narrow 84 = .ok (.aload 7, 2) := by decide +kernel
theorem dX1_narrow_86 : decode cX1_narrow 86 = .ok (.getfield 204, 3) := by decide +kernel
theorem dX1_narrow_89 : decode cX1_narrow 89 = .ok (.iload_n 2, 1) := by decide +kernel
theorem dX1_narrow_90 : decode cX1_narrow 90 = .ok (.if_icmp .ne 13, 3) := by decide +kernel
theorem dX1_narrow_93 : decode cX1_narrow 93 = .ok (.iload 5, 2) := by decide +kernel
theorem dX1_narrow_95 : decode cX1_narrow 95 = .ok (.aload 7, 2) := by decide +kernel
theorem dX1_narrow_97 : decode cX1_narrow 97 = .ok (.getfield 207, 3) := by decide +kernel
theorem dX1_narrow_100 : decode cX1_narrow 100 = .ok (.iadd, 1) := by decide +kernel
theorem dX1_narrow_101 : decode cX1_narrow 101 = .ok (.istore 5, 2) := by decide +kernel
theorem dX1_narrow_103 : decode cX1_narrow 103 = .ok (.iinc 6 1, 3) := by decide +kernel
theorem dX1_narrow_106 : decode cX1_narrow 106 = .ok (.goto (-95), 3) := by decide +kernel
theorem dX1_narrow_109 : decode cX1_narrow 109 = .ok (.iload_n 3, 1) := by decide +kernel
theorem dX1_narrow_110 : decode cX1_narrow 110 = .ok (.ifCond .le 109, 3) := by decide +kernel
theorem dX1_narrow_113 : decode cX1_narrow 113 = .ok (.iload 4, 2) := by decide +kernel
theorem dX1_narrow_115 : decode cX1_narrow 115 = .ok (.ifCond .le 104, 3) := by decide +kernel
theorem dX1_narrow_118 : decode cX1_narrow 118 = .ok (.aload_n 0, 1) := by decide +kernel
theorem dX1_narrow_119 : decode cX1_narrow 119 = .ok (.getfield 19, 3) := by decide +kernel
theorem dX1_narrow_122 : decode cX1_narrow 122 = .ok (.iload_n 1, 1) := by decide +kernel
theorem dX1_narrow_123 : decode cX1_narrow 123 = .ok (.aaload, 1) := by decide +kernel
theorem dX1_narrow_124 : decode cX1_narrow 124 = .ok (.iload_n 2, 1) := by decide +kernel
theorem dX1_narrow_125 : decode cX1_narrow 125 = .ok (.iload_n 3, 1) := by decide +kernel
theorem dX1_narrow_126 : decode cX1_narrow 126 = .ok (.iload 5, 2) := by decide +kernel
theorem dX1_narrow_128 : decode cX1_narrow 128 = .ok (.aload_n 0, 1) := by decide +kernel
theorem dX1_narrow_129 : decode cX1_narrow 129 = .ok (.getfield 29, 3) := by decide +kernel
theorem dX1_narrow_132 : decode cX1_narrow 132 = .ok (.invokevirtual 213, 3) := by decide +kernel
theorem dX1_narrow_135 : decode cX1_narrow 135 = .ok (.istore 6, 2) := by decide +kernel
theorem dX1_narrow_137 : decode cX1_narrow 137 = .ok (.iconst 0, 1) := by decide +kernel
theorem dX1_narrow_138 : decode cX1_narrow 138 = .ok (.istore 7, 2) := by decide +kernel
theorem dX1_narrow_140 : decode cX1_narrow 140 = .ok (.iload 7, 2) := by decide +kernel
theorem dX1_narrow_142 : decode cX1_narrow 142 = .ok (.aload_n 0, 1) := by decide +kernel
theorem dX1_narrow_143 : decode cX1_narrow 143 = .ok (.getfield 43, 3) := by decide +kernel
theorem dX1_narrow_146 : decode cX1_narrow 146 = .ok (.if_icmp .ge 73, 3) := by decide +kernel
theorem dX1_narrow_149 : decode cX1_narrow 149 = .ok (.aload_n 0, 1) := by decide +kernel
theorem dX1_narrow_150 : decode cX1_narrow 150 = .ok (.getfield 11, 3) := by decide +kernel
theorem dX1_narrow_153 : decode cX1_narrow 153 = .ok (.iload 7, 2) := by decide +kernel
theorem dX1_narrow_155 : decode cX1_narrow 155 = .ok (.aaload, 1) := by decide +kernel
theorem dX1_narrow_156 : decode cX1_narrow 156 = .ok (.getfield 204, 3) := by decide +kernel
theorem dX1_narrow_159 : decode cX1_narrow 159 = .ok (.iload_n 2, 1) := by decide +kernel
theorem dX1_narrow_160 : decode cX1_narrow 160 = .ok (.if_icmp .ne 7, 3) := by decide +kernel
theorem dX1_narrow_163 : decode cX1_narrow 163 = .ok (.iconst 1, 1) := by decide +kernel
theorem dX1_narrow_164 : decode cX1_narrow 164 = .ok (.goto 4, 3) := by decide +kernel
theorem dX1_narrow_167 : decode cX1_narrow 167 = .ok (.iconst 0, 1) := by decide +kernel
theorem dX1_narrow_168 : decode cX1_narrow 168 = .ok (.iload 6, 2) := by decide +kernel
theorem dX1_narrow_170 : decode cX1_narrow 170 = .ok (.if_icmp .ne 7, 3) := by decide +kernel
theorem dX1_narrow_173 : decode cX1_narrow 173 = .ok (.iconst 1, 1) := by decide +kernel
theorem dX1_narrow_174 : decode cX1_narrow 174 = .ok (.goto 4, 3) := by decide +kernel
theorem dX1_narrow_177 : decode cX1_narrow 177 = .ok (.iconst 0, 1) := by decide +kernel
theorem dX1_narrow_178 : decode cX1_narrow 178 = .ok (.istore 8, 2) := by decide +kernel
theorem dX1_narrow_180 : decode cX1_narrow 180 = .ok (.aload_n 0, 1) := by decide +kernel
theorem dX1_narrow_181 : decode cX1_narrow 181 = .ok (.getfield 11, 3) := by decide +kernel
theorem dX1_narrow_184 : decode cX1_narrow 184 = .ok (.iload 7, 2) := by decide +kernel
theorem dX1_narrow_186 : decode cX1_narrow 186 = .ok (.aaload, 1) := by decide +kernel
theorem dX1_narrow_187 : decode cX1_narrow 187 = .ok (.aload_n 0, 1) := by decide +kernel
theorem dX1_narrow_188 : decode cX1_narrow 188 = .ok (.getfield 11, 3) := by decide +kernel
theorem dX1_narrow_191 : decode cX1_narrow 191 = .ok (.iload 7, 2) := by decide +kernel
theorem dX1_narrow_193 : decode cX1_narrow 193 = .ok (.aaload, 1) := by decide +kernel
theorem dX1_narrow_194 : decode cX1_narrow 194 = .ok (.getfield 191, 3) := by decide +kernel
theorem dX1_narrow_197 : decode cX1_narrow 197 = .ok (.ifCond .eq 12, 3) := by decide +kernel
theorem dX1_narrow_200 : decode cX1_narrow 200 = .ok (.iload 8, 2) := by decide +kernel
theorem dX1_narrow_202 : decode cX1_narrow 202 = .ok (.ifCond .eq 7, 3) := by decide +kernel
theorem dX1_narrow_205 : decode cX1_narrow 205 = .ok (.iconst 1, 1) := by decide +kernel
theorem dX1_narrow_206 : decode cX1_narrow 206 = .ok (.goto 4, 3) := by decide +kernel
theorem dX1_narrow_209 : decode cX1_narrow 209 = .ok (.iconst 0, 1) := by decide +kernel
theorem dX1_narrow_210 : decode cX1_narrow 210 = .ok (.putfield 191, 3) := by decide +kernel
theorem dX1_narrow_213 : decode cX1_narrow 213 = .ok (.iinc 7 1, 3) := by decide +kernel
theorem dX1_narrow_216 : decode cX1_narrow 216 = .ok (.goto (-76), 3) := by decide +kernel
theorem dX1_narrow_219 : decode cX1_narrow 219 = .ok (.return_, 1) := by decide +kernel
theorem dX1_pickLeastUsed_0 : decode cX1_pickLeastUsed 0 = .ok (.iconst (-1), 1) := by decide +kernel
theorem dX1_pickLeastUsed_1 : decode cX1_pickLeastUsed 1 = .ok (.istore_n 1, 1) := by decide +kernel
theorem dX1_pickLeastUsed_2 : decode cX1_pickLeastUsed 2 = .ok (.iconst 0, 1) := by decide +kernel
theorem dX1_pickLeastUsed_3 : decode cX1_pickLeastUsed 3 = .ok (.istore_n 2, 1) := by decide +kernel
theorem dX1_pickLeastUsed_4 : decode cX1_pickLeastUsed 4 = .ok (.iload_n 2, 1) := by decide +kernel
theorem dX1_pickLeastUsed_5 : decode cX1_pickLeastUsed 5 = .ok (.aload_n 0, 1) := by decide +kernel
theorem dX1_pickLeastUsed_6 : decode cX1_pickLeastUsed 6 = .ok (.getfield 43, 3) := by decide +kernel
theorem dX1_pickLeastUsed_9 : decode cX1_pickLeastUsed 9 = .ok (.if_icmp .ge 46, 3) := by decide +kernel
theorem dX1_pickLeastUsed_12 : decode cX1_pickLeastUsed 12 = .ok (.aload_n 0, 1) := by decide +kernel
theorem dX1_pickLeastUsed_13 : decode cX1_pickLeastUsed 13 = .ok (.getfield 11, 3) := by decide +kernel
theorem dX1_pickLeastUsed_16 : decode cX1_pickLeastUsed 16 = .ok (.iload_n 2, 1) := by decide +kernel
theorem dX1_pickLeastUsed_17 : decode cX1_pickLeastUsed 17 = .ok (.aaload, 1) := by decide +kernel
theorem dX1_pickLeastUsed_18 : decode cX1_pickLeastUsed 18 = .ok (.getfield 191, 3) := by decide +kernel
theorem dX1_pickLeastUsed_21 : decode cX1_pickLeastUsed 21 = .ok (.ifCond .eq 28, 3) := by decide +kernel
theorem dX1_pickLeastUsed_24 : decode cX1_pickLeastUsed 24 = .ok (.iload_n 1, 1) := by decide +kernel
theorem dX1_pickLeastUsed_25 : decode cX1_pickLeastUsed 25 = .ok (.iconst (-1), 1) := by decide +kernel
theorem dX1_pickLeastUsed_26 : decode cX1_pickLeastUsed 26 = .ok (.if_icmp .eq 21, 3) := by decide +kernel
theorem dX1_pickLeastUsed_29 : decode cX1_pickLeastUsed 29 = .ok (.aload_n 0, 1) := by decide +kernel
theorem dX1_pickLeastUsed_30 : decode cX1_pickLeastUsed 30 = .ok (.getfield 11, 3) := by decide +kernel
theorem dX1_pickLeastUsed_33 : decode cX1_pickLeastUsed 33 = .ok (.iload_n 2, 1) := by decide +kernel
theorem dX1_pickLeastUsed_34 : decode cX1_pickLeastUsed 34 = .ok (.aaload, 1) := by decide +kernel
theorem dX1_pickLeastUsed_35 : decode cX1_pickLeastUsed 35 = .ok (.aload_n 0, 1) := by decide +kernel
theorem dX1_pickLeastUsed_36 : decode cX1_pickLeastUsed 36 = .ok (.getfield 11, 3) := by decide +kernel
theorem dX1_pickLeastUsed_39 : decode cX1_pickLeastUsed 39 = .ok (.iload_n 1, 1) := by decide +kernel
theorem dX1_pickLeastUsed_40 : decode cX1_pickLeastUsed 40 = .ok (.aaload, 1) := by decide +kernel
theorem dX1_pickLeastUsed_41 : decode cX1_pickLeastUsed 41 = .ok (.invokevirtual 217, 3) := by decide +kernel
theorem dX1_pickLeastUsed_44 : decode cX1_pickLeastUsed 44 = .ok (.ifCond .eq 5, 3) := by decide +kernel
theorem dX1_pickLeastUsed_47 : decode cX1_pickLeastUsed 47 = .ok (.iload_n 2, 1) := by decide +kernel
theorem dX1_pickLeastUsed_48 : decode cX1_pickLeastUsed 48 = .ok (.istore_n 1, 1) := by decide +kernel
theorem dX1_pickLeastUsed_49 : decode cX1_pickLeastUsed 49 = .ok (.iinc 2 1, 3) := by decide +kernel
theorem dX1_pickLeastUsed_52 : decode cX1_pickLeastUsed 52 = .ok (.goto (-48), 3) := by decide +kernel
theorem dX1_pickLeastUsed_55 : decode cX1_pickLeastUsed 55 = .ok (.iload_n 1, 1) := by decide +kernel
theorem dX1_pickLeastUsed_56 : decode cX1_pickLeastUsed 56 = .ok (.ireturn, 1) := by decide +kernel
theorem dX1_pickSticky_0 : decode cX1_pickSticky 0 = .ok (.aload_n 1, 1) := by decide +kernel
theorem dX1_pickSticky_1 : decode cX1_pickSticky 1 = .ok (.getfield 221, 3) := by decide +kernel
theorem dX1_pickSticky_4 : decode cX1_pickSticky 4 = .ok (.iload_n 2, 1) := by decide +kernel
theorem dX1_pickSticky_5 : decode cX1_pickSticky 5 = .ok (.iaload, 1) := by decide +kernel
theorem dX1_pickSticky_6 : decode cX1_pickSticky 6 = .ok (.istore_n 3, 1) := by decide +kernel
theorem dX1_pickSticky_7 : decode cX1_pickSticky 7 = .ok (.aload_n 0, 1) := by decide +kernel
theorem dX1_pickSticky_8 : decode cX1_pickSticky 8 = .ok (.iload_n 3, 1) := by decide +kernel
theorem dX1_pickSticky_9 : decode cX1_pickSticky 9 = .ok (.invokevirtual 225, 3) := by decide +kernel
theorem dX1_pickSticky_12 : decode cX1_pickSticky 12 = .ok (.ifCond .eq 15, 3) := by decide +kernel
theorem dX1_pickSticky_15 : decode cX1_pickSticky 15 = .ok (.aload_n 0, 1) := by decide +kernel
theorem dX1_pickSticky_16 : decode cX1_pickSticky 16 = .ok (.getfield 11, 3) := by decide +kernel
theorem dX1_pickSticky_19 : decode cX1_pickSticky 19 = .ok (.iload_n 3, 1) := by decide +kernel
theorem dX1_pickSticky_20 : decode cX1_pickSticky 20 = .ok (.aaload, 1) := by decide +kernel
theorem dX1_pickSticky_21 : decode cX1_pickSticky 21 = .ok (.getfield 191, 3) := by decide +kernel
theorem dX1_pickSticky_24 : decode cX1_pickSticky 24 = .ok (.ifCond .ne 22, 3) := by decide +kernel
theorem dX1_pickSticky_27 : decode cX1_pickSticky 27 = .ok (.aload_n 0, 1) := by decide +kernel
theorem dX1_pickSticky_28 : decode cX1_pickSticky 28 = .ok (.getfield 11, 3) := by decide +kernel
theorem dX1_pickSticky_31 : decode cX1_pickSticky 31 = .ok (.aload_n 0, 1) := by decide +kernel
theorem dX1_pickSticky_32 : decode cX1_pickSticky 32 = .ok (.getfield 43, 3) := by decide +kernel
theorem dX1_pickSticky_35 : decode cX1_pickSticky 35 = .ok (.invokestatic 155, 3) := by decide +kernel
theorem dX1_pickSticky_38 : decode cX1_pickSticky 38 = .ok (.istore_n 3, 1) := by decide +kernel
theorem dX1_pickSticky_39 : decode cX1_pickSticky 39 = .ok (.aload_n 1, 1) := by decide +kernel
theorem dX1_pickSticky_40 : decode cX1_pickSticky 40 = .ok (.getfield 221, 3) := by decide +kernel
theorem dX1_pickSticky_43 : decode cX1_pickSticky 43 = .ok (.iload_n 2, 1) := by decide +kernel
theorem dX1_pickSticky_44 : decode cX1_pickSticky 44 = .ok (.iload_n 3, 1) := by decide +kernel
theorem dX1_pickSticky_45 : decode cX1_pickSticky 45 = .ok (.iastore, 1) := by decide +kernel
theorem dX1_pickSticky_46 : decode cX1_pickSticky 46 = .ok (.iload_n 3, 1) := by decide +kernel
theorem dX1_pickSticky_47 : decode cX1_pickSticky 47 = .ok (.ireturn, 1) := by decide +kernel
theorem dX1_attempt_0 : decode cX1_attempt 0 = .ok (.aload_n 0, 1) := by decide +kernel
theorem dX1_attempt_1 : decode cX1_attempt 1 = .ok (.iload_n 1, 1) := by decide +kernel
theorem dX1_attempt_2 : decode cX1_attempt 2 = .ok (.invokevirtual 225, 3) := by decide +kernel
theorem dX1_attempt_5 : decode cX1_attempt 5 = .ok (.ifCond .ne 5, 3) := by decide +kernel
theorem dX1_attempt_8 : decode cX1_attempt 8 = .ok (.iconst 0, 1) := by decide +kernel
theorem dX1_attempt_9 : decode cX1_attempt 9 = .ok (.ireturn, 1) := by decide +kernel
theorem dX1_attempt_10 : decode cX1_attempt 10 = .ok (.aload_n 0, 1) := by decide +kernel
theorem dX1_attempt_11 : decode cX1_attempt 11 = .ok (.getfield 11, 3) := by decide +kernel
theorem dX1_attempt_14 : decode cX1_attempt 14 = .ok (.iload_n 1, 1) := by decide +kernel
theorem dX1_attempt_15 : decode cX1_attempt 15 = .ok (.aaload, 1) := by decide +kernel
theorem dX1_attempt_16 : decode cX1_attempt 16 = .ok (.astore_n 3, 1) := by decide +kernel
theorem dX1_attempt_17 : decode cX1_attempt 17 = .ok (.aload_n 3, 1) := by decide +kernel
theorem dX1_attempt_18 : decode cX1_attempt 18 = .ok (.invokevirtual 228, 3) := by decide +kernel
theorem dX1_attempt_21 : decode cX1_attempt 21 = .ok (.istore 4, 2) := by decide +kernel
theorem dX1_attempt_23 : decode cX1_attempt 23 = .ok (.iload 4, 2) := by decide +kernel
theorem dX1_attempt_25 : decode cX1_attempt 25 = .ok (.ifCond .ne 15, 3) := by decide +kernel
theorem dX1_attempt_28 : decode cX1_attempt 28 = .ok (.aload_n 0, 1) := by decide +kernel
theorem dX1_attempt_29 : decode cX1_attempt 29 = .ok (.aload_n 3, 1) := by decide +kernel
theorem dX1_attempt_30 : decode cX1_attempt 30 = .ok (.invokevirtual 231, 3) := by decide +kernel
theorem dX1_attempt_33 : decode cX1_attempt 33 = .ok (.ifCond .eq 7, 3) := by decide +kernel
theorem dX1_attempt_36 : decode cX1_attempt 36 = .ok (.iconst 1, 1) := by decide +kernel
theorem dX1_attempt_37 : decode cX1_attempt 37 = .ok (.goto 4, 3) := by decide +kernel
theorem dX1_attempt_40 : decode cX1_attempt 40 = .ok (.iconst 0, 1) := by decide +kernel
theorem dX1_attempt_41 : decode cX1_attempt 41 = .ok (.istore 5, 2) := by decide +kernel
theorem dX1_attempt_43 : decode cX1_attempt 43 = .ok (.iload 5, 2) := by decide +kernel
theorem dX1_attempt_45 : decode cX1_attempt 45 = .ok (.ifCond .eq 29, 3) := by decide +kernel
theorem dX1_attempt_48 : decode cX1_attempt 48 = .ok (.aload_n 3, 1) := by decide +kernel
theorem dX1_attempt_49 : decode cX1_attempt 49 = .ok (.aload_n 0, 1) := by decide +kernel
theorem dX1_attempt_50 : decode cX1_attempt 50 = .ok (.getfield 19, 3) := by decide +kernel
theorem dX1_attempt_53 : decode cX1_attempt 53 = .ok (.aload_n 3, 1) := by decide +kernel
theorem dX1_attempt_54 : decode cX1_attempt 54 = .ok (.getfield 234, 3) := by decide +kernel
theorem dX1_attempt_57 : decode cX1_attempt 57 = .ok (.aaload, 1) := by decide +kernel
theorem dX1_attempt_58 : decode cX1_attempt 58 = .ok (.getfield 235, 3) := by decide +kernel
theorem dX1_attempt_61 : decode cX1_attempt 61 = .ok (.invokevirtual 238, 3) := by decide +kernel
theorem dX1_attempt_64 : decode cX1_attempt 64 = .ok (.aload_n 0, 1) := by decide +kernel
theorem dX1_attempt_65 : decode cX1_attempt 65 = .ok (.dup, 1) := by decide +kernel
theorem dX1_attempt_66 : decode cX1_attempt 66 = .ok (.getfield 83, 3) := by decide +kernel
theorem dX1_attempt_69 : decode cX1_attempt 69 = .ok (.iconst 1, 1) := by decide +kernel
theorem dX1_attempt_70 : decode cX1_attempt 70 = .ok (.iadd, 1) := by decide +kernel
theorem dX1_attempt_71 : decode cX1_attempt 71 = .ok (.putfield 83, 3) := by decide +kernel
theorem dX1_attempt_74 : decode cX1_attempt 74 = .ok (.aload_n 0, 1) := by decide +kernel
theorem dX1_attempt_75 : decode cX1_attempt 75 = .ok (.dup, 1) := by decide +kernel
theorem dX1_attempt_76 : decode cX1_attempt 76 = .ok (.getfield 77, 3) := by decide +kernel
theorem dX1_attempt_79 : decode cX1_attempt 79 = .ok (.iconst 1, 1) := by decide +kernel
theorem dX1_attempt_80 : decode cX1_attempt 80 = .ok (.iadd, 1) := by decide +kernel
theorem dX1_attempt_81 : decode cX1_attempt 81 = .ok (.putfield 77, 3) := by decide +kernel
theorem dX1_attempt_84 : decode cX1_attempt 84 = .ok (.aload_n 0, 1) := by decide +kernel
theorem dX1_attempt_85 : decode cX1_attempt 85 = .ok (.getfield 36, 3) := by decide +kernel
theorem dX1_attempt_88 : decode cX1_attempt 88 = .ok (.iload_n 1, 1) := by decide +kernel
theorem dX1_attempt_89 : decode cX1_attempt 89 = .ok (.iload 4, 2) := by decide +kernel
theorem dX1_attempt_91 : decode cX1_attempt 91 = .ok (.aload_n 3, 1) := by decide +kernel
theorem dX1_attempt_92 : decode cX1_attempt 92 = .ok (.getfield 204, 3) := by decide +kernel
theorem dX1_attempt_95 : decode cX1_attempt 95 = .ok (.iload_n 2, 1) := by decide +kernel
theorem dX1_attempt_96 : decode cX1_attempt 96 = .ok (.if_icmp .ne 7, 3) := by decide +kernel
theorem dX1_attempt_99 : decode cX1_attempt 99 = .ok (.iconst 1, 1) := by decide +kernel
theorem dX1_attempt_100 : decode cX1_attempt 100 = .ok (.goto 4, 3) := by decide +kernel
theorem dX1_attempt_103 : decode cX1_attempt 103 = .ok (.iconst 0, 1) := by decide +kernel
theorem dX1_attempt_104 : decode cX1_attempt 104 = .ok (.iload 5, 2) := by decide +kernel
theorem dX1_attempt_106 : decode cX1_attempt 106 = .ok (.invokevirtual 241, 3) := by decide +kernel
theorem dX1_attempt_109 : decode cX1_attempt 109 = .ok (.iload 4, 2) := by decide +kernel
theorem dX1_attempt_111 : decode cX1_attempt 111 = .ok (.ireturn, 1) := by decide +kernel
theorem dX1_isToEject_0 : decode cX1_isToEject 0 = .ok (.aload_n 0, 1) := by decide +kernel
theorem dX1_isToEject_1 : decode cX1_isToEject 1 = .ok (.getfield 19, 3) := by decide +kernel
theorem dX1_isToEject_4 : decode cX1_isToEject 4 = .ok (.aload_n 1, 1) := by decide +kernel
theorem dX1_isToEject_5 : decode cX1_isToEject 5 = .ok (.getfield 234, 3) := by decide +kernel
theorem dX1_isToEject_8 : decode cX1_isToEject 8 = .ok (.aaload, 1) := by decide +kernel
theorem dX1_isToEject_9 : decode cX1_isToEject 9 = .ok (.astore_n 2, 1) := by decide +kernel
theorem dX1_isToEject_10 : decode cX1_isToEject 10 = .ok (.aload_n 1, 1) := by decide +kernel
theorem dX1_isToEject_11 : decode cX1_isToEject 11 = .ok (.getfield 245, 3) := by decide +kernel
theorem dX1_isToEject_14 : decode cX1_isToEject 14 = .ok (.aload_n 2, 1) := by decide +kernel
theorem dX1_isToEject_15 : decode cX1_isToEject 15 = .ok (.getfield 108, 3) := by decide +kernel
theorem dX1_isToEject_18 : decode cX1_isToEject 18 = .ok (.if_icmp .lt 38, 3) := by decide +kernel
theorem dX1_isToEject_21 : decode cX1_isToEject 21 = .ok (.aload_n 0, 1) := by decide +kernel
theorem dX1_isToEject_22 : decode cX1_isToEject 22 = .ok (.aload_n 1, 1) := by decide +kernel
theorem dX1_isToEject_23 : decode cX1_isToEject 23 = .ok (.getfield 234, 3) := by decide +kernel
theorem dX1_isToEject_26 : decode cX1_isToEject 26 = .ok (.iconst 1, 1) := by decide +kernel
theorem dX1_isToEject_27 : decode cX1_isToEject 27 = .ok (.invokevirtual 248, 3) := by decide +kernel
theorem dX1_isToEject_30 : decode cX1_isToEject 30 = .ok (.iconst 1, 1) := by decide +kernel
theorem dX1_isToEject_31 : decode cX1_isToEject 31 = .ok (.iadd, 1) := by decide +kernel
theorem dX1_isToEject_32 : decode cX1_isToEject 32 = .ok (.bipush 100, 2) := by decide +kernel
theorem dX1_isToEject_34 : decode cX1_isToEject 34 = .ok (.imul, 1) := by decide +kernel
theorem dX1_isToEject_35 : decode cX1_isToEject 35 = .ok (.aload_n 2, 1) := by decide +kernel
theorem dX1_isToEject_36 : decode cX1_isToEject 36 = .ok (.getfield 252, 3) := by decide +kernel
theorem dX1_isToEject_39 : decode cX1_isToEject 39 = .ok (.aload_n 0, 1) := by decide +kernel
theorem dX1_isToEject_40 : decode cX1_isToEject 40 = .ok (.aload_n 1, 1) := by decide +kernel
theorem dX1_isToEject_41 : decode cX1_isToEject 41 = .ok (.getfield 234, 3) := by decide +kernel
theorem dX1_isToEject_44 : decode cX1_isToEject 44 = .ok (.iconst 0, 1) := by decide +kernel
theorem dX1_isToEject_45 : decode cX1_isToEject 45 = .ok (.invokevirtual 248, 3) := by decide +kernel
theorem dX1_isToEject_48 : decode cX1_isToEject 48 = .ok (.imul, 1) := by decide +kernel
theorem dX1_isToEject_49 : decode cX1_isToEject 49 = .ok (.if_icmp .gt 7, 3) := by decide +kernel
theorem dX1_isToEject_52 : decode cX1_isToEject 52 = .ok (.iconst 1, 1) := by decide +kernel
theorem dX1_isToEject_53 : decode cX1_isToEject 53 = .ok (.goto 4, 3) := by decide +kernel
theorem dX1_isToEject_56 : decode cX1_isToEject 56 = .ok (.iconst 0, 1) := by decide +kernel
theorem dX1_isToEject_57 : decode cX1_isToEject 57 = .ok (.ireturn, 1) := by decide +kernel
theorem dX1_countMembers_0 : decode cX1_countMembers 0 = .ok (.iconst 0, 1) := by decide +kernel
theorem dX1_countMembers_1 : decode cX1_countMembers 1 = .ok (.istore_n 3, 1) := by decide +kernel
theorem dX1_countMembers_2 : decode cX1_countMembers 2 = .ok (.iconst 0, 1) := by decide +kernel
theorem dX1_countMembers_3 : decode cX1_countMembers 3 = .ok (.istore 4, 2) := by decide +kernel
theorem dX1_countMembers_5 : decode cX1_countMembers 5 = .ok (.iload 4, 2) := by decide +kernel
theorem dX1_countMembers_7 : decode cX1_countMembers 7 = .ok (.aload_n 0, 1) := by decide +kernel
theorem dX1_countMembers_8 : decode cX1_countMembers 8 = .ok (.getfield 43, 3) := by decide +kernel
theorem dX1_countMembers_11 : decode cX1_countMembers 11 = .ok (.if_icmp .ge 50, 3) := by decide +kernel
theorem dX1_countMembers_14 : decode cX1_countMembers 14 = .ok (.aload_n 0, 1) := by decide +kernel
theorem dX1_countMembers_15 : decode cX1_countMembers 15 = .ok (.getfield 11, 3) := by decide +kernel
theorem dX1_countMembers_18 : decode cX1_countMembers 18 = .ok (.iload 4, 2) := by decide +kernel
theorem dX1_countMembers_20 : decode cX1_countMembers 20 = .ok (.aaload, 1) := by decide +kernel
theorem dX1_countMembers_21 : decode cX1_countMembers 21 = .ok (.astore 5, 2) := by decide +kernel
theorem dX1_countMembers_23 : decode cX1_countMembers 23 = .ok (.aload 5, 2) := by decide +kernel
theorem dX1_countMembers_25 : decode cX1_countMembers 25 = .ok (.getfield 234, 3) := by decide +kernel
theorem dX1_countMembers_28 : decode cX1_countMembers 28 = .ok (.iload_n 1, 1) := by decide +kernel
theorem dX1_countMembers_29 : decode cX1_countMembers 29 = .ok (.if_icmp .ne 26, 3) := by decide +kernel
theorem dX1_countMembers_32 : decode cX1_countMembers 32 = .ok (.aload 5, 2) := by decide +kernel
theorem dX1_countMembers_34 : decode cX1_countMembers 34 = .ok (.getfield 207, 3) := by decide +kernel
theorem dX1_countMembers_37 : decode cX1_countMembers 37 = .ok (.ifCond .le 18, 3) := by decide +kernel
theorem dX1_countMembers_40 : decode cX1_countMembers 40 = .ok (.iload_n 2, 1) := by decide +kernel
theorem dX1_countMembers_41 : decode cX1_countMembers 41 = .ok (.ifCond .eq 11, 3) := by decide +kernel
theorem dX1_countMembers_44 : decode cX1_countMembers 44 = .ok (.aload 5, 2) := by decide +kernel
theorem dX1_countMembers_46 : decode cX1_countMembers 46 = .ok (.getfield 98, 3) := by decide +kernel
theorem dX1_countMembers_49 : decode cX1_countMembers 49 = .ok (.ifCond .le 6, 3) := by decide +kernel
theorem dX1_countMembers_52 : decode cX1_countMembers 52 = .ok (.iinc 3 1, 3) := by decide +kernel
theorem dX1_countMembers_55 : decode cX1_countMembers 55 = .ok (.iinc 4 1, 3) := by decide +kernel
theorem dX1_countMembers_58 : decode cX1_countMembers 58 = .ok (.goto (-53), 3) := by decide +kernel
theorem dX1_countMembers_61 : decode cX1_countMembers 61 = .ok (.iload_n 3, 1) := by decide +kernel
theorem dX1_countMembers_62 : decode cX1_countMembers 62 = .ok (.ireturn, 1) := by decide +kernel
theorem dX1_mirror_0 : decode cX1_mirror 0 = .ok (.iconst (-1), 1) := by decide +kernel
theorem dX1_mirror_1 : decode cX1_mirror 1 = .ok (.istore_n 2, 1) := by decide +kernel
theorem dX1_mirror_2 : decode cX1_mirror 2 = .ok (.iconst 0, 1) := by decide +kernel
theorem dX1_mirror_3 : decode cX1_mirror 3 = .ok (.istore_n 3, 1) := by decide +kernel
theorem dX1_mirror_4 : decode cX1_mirror 4 = .ok (.iload_n 3, 1) := by decide +kernel
theorem dX1_mirror_5 : decode cX1_mirror 5 = .ok (.aload_n 0, 1) := by decide +kernel
theorem dX1_mirror_6 : decode cX1_mirror 6 = .ok (.getfield 43, 3) := by decide +kernel
theorem dX1_mirror_9 : decode cX1_mirror 9 = .ok (.if_icmp .ge 50, 3) := by decide +kernel
theorem dX1_mirror_12 : decode cX1_mirror 12 = .ok (.aload_n 0, 1) := by decide +kernel
theorem dX1_mirror_13 : decode cX1_mirror 13 = .ok (.getfield 11, 3) := by decide +kernel
theorem dX1_mirror_16 : decode cX1_mirror 16 = .ok (.iload_n 3, 1) := by decide +kernel
theorem dX1_mirror_17 : decode cX1_mirror 17 = .ok (.aaload, 1) := by decide +kernel
theorem dX1_mirror_18 : decode cX1_mirror 18 = .ok (.iload_n 1, 1) := by decide +kernel
theorem dX1_mirror_19 : decode cX1_mirror 19 = .ok (.invokevirtual 210, 3) := by decide +kernel
theorem dX1_mirror_22 : decode cX1_mirror 22 = .ok (.ifCond .eq 31, 3) := by decide +kernel
theorem dX1_mirror_25 : decode cX1_mirror 25 = .ok (.iload_n 2, 1) := by decide +kernel
theorem dX1_mirror_26 : decode cX1_mirror 26 = .ok (.iconst (-1), 1) := by decide +kernel
theorem dX1_mirror_27 : decode cX1_mirror 27 = .ok (.if_icmp .eq 24, 3) := by decide +kernel
theorem dX1_mirror_30 : decode cX1_mirror 30 = .ok (.aload_n 0, 1) := by decide +kernel
theorem dX1_mirror_31 : decode cX1_mirror 31 = .ok (.getfield 11, 3) := by decide +kernel
theorem dX1_mirror_34 : decode cX1_mirror 34 = .ok (.iload_n 3, 1) := by decide +kernel
theorem dX1_mirror_35 : decode cX1_mirror 35 = .ok (.aaload, 1) := by decide +kernel
theorem dX1_mirror_36 : decode cX1_mirror 36 = .ok (.getfield 255, 3) := by decide +kernel
theorem dX1_mirror_39 : decode cX1_mirror 39 = .ok (.aload_n 0, 1) := by decide +kernel
theorem dX1_mirror_40 : decode cX1_mirror 40 = .ok (.getfield 11, 3) := by decide +kernel
theorem dX1_mirror_43 : decode cX1_mirror 43 = .ok (.iload_n 2, 1) := by decide +kernel
theorem dX1_mirror_44 : decode cX1_mirror 44 = .ok (.aaload, 1) := by decide +kernel
theorem dX1_mirror_45 : decode cX1_mirror 45 = .ok (.getfield 255, 3) := by decide +kernel
theorem dX1_mirror_48 : decode cX1_mirror 48 = .ok (.if_icmp .ge 5, 3) := by decide +kernel
theorem dX1_mirror_51 : decode cX1_mirror 51 = .ok (.iload_n 3, 1) := by decide +kernel
theorem dX1_mirror_52 : decode cX1_mirror 52 = .ok (.istore_n 2, 1) := by decide +kernel
theorem dX1_mirror_53 : decode cX1_mirror 53 = .ok (.iinc 3 1, 3) := by decide +kernel
theorem dX1_mirror_56 : decode cX1_mirror 56 = .ok (.goto (-52), 3) := by decide +kernel
theorem dX1_mirror_59 : decode cX1_mirror 59 = .ok (.iload_n 2, 1) := by decide +kernel
theorem dX1_mirror_60 : decode cX1_mirror 60 = .ok (.iconst (-1), 1) := by decide +kernel
theorem dX1_mirror_61 : decode cX1_mirror 61 = .ok (.if_icmp .eq 22, 3) := by decide +kernel
theorem dX1_mirror_64 : decode cX1_mirror 64 = .ok (.aload_n 0, 1) := by decide +kernel
theorem dX1_mirror_65 : decode cX1_mirror 65 = .ok (.getfield 11, 3) := by decide +kernel
theorem dX1_mirror_68 : decode cX1_mirror 68 = .ok (.iload_n 2, 1) := by decide +kernel
theorem dX1_mirror_69 : decode cX1_mirror 69 = .ok (.aaload, 1) := by decide +kernel
theorem dX1_mirror_70 : decode cX1_mirror 70 = .ok (.invokevirtual 256, 3) := by decide +kernel
theorem dX1_mirror_73 : decode cX1_mirror 73 = .ok (.aload_n 0, 1) := by decide +kernel
theorem dX1_mirror_74 : decode cX1_mirror 74 = .ok (.dup, 1) := by decide +kernel
theorem dX1_mirror_75 : decode cX1_mirror 75 = .ok (.getfield 80, 3) := by decide +kernel
theorem dX1_mirror_78 : decode cX1_mirror 78 = .ok (.iconst 1, 1) := by decide +kernel
theorem dX1_mirror_79 : decode cX1_mirror 79 = .ok (.iadd, 1) := by decide +kernel
theorem dX1_mirror_80 : decode cX1_mirror 80 = .ok (.putfield 80, 3) := by decide +kernel
theorem dX1_mirror_83 : decode cX1_mirror 83 = .ok (.return_, 1) := by decide +kernel
theorem dX1_serviceProperty_0 : decode cX1_serviceProperty 0 = .ok (.aload_n 0, 1) := by decide +kernel
theorem dX1_serviceProperty_1 : decode cX1_serviceProperty 1 = .ok (.getfield 19, 3) := by decide +kernel
theorem dX1_serviceProperty_4 : decode cX1_serviceProperty 4 = .ok (.iload_n 1, 1) := by decide +kernel
theorem dX1_serviceProperty_5 : decode cX1_serviceProperty 5 = .ok (.aaload, 1) := by decide +kernel
theorem dX1_serviceProperty_6 : decode cX1_serviceProperty 6 = .ok (.astore_n 3, 1) := by decide +kernel
theorem dX1_serviceProperty_7 : decode cX1_serviceProperty 7 = .ok (.iload_n 2, 1) := by decide +kernel
theorem dX1_serviceProperty_8 : decode cX1_serviceProperty 8 = .ok (.tableswitch 143 0 12 #[68, 73, 78, 83, 88, 93, 98, 105, 112, 117, 122, 129, 136], 68) := by decide +kernel
theorem dX1_serviceProperty_76 : decode cX1_serviceProperty 76 = .ok (.aload_n 3, 1) := by decide +kernel
theorem dX1_serviceProperty_77 : decode cX1_serviceProperty 77 = .ok (.getfield 111, 3) := by decide +kernel
theorem dX1_serviceProperty_80 : decode cX1_serviceProperty 80 = .ok (.ireturn, 1) := by decide +kernel
theorem dX1_serviceProperty_81 : decode cX1_serviceProperty 81 = .ok (.aload_n 3, 1) := by decide +kernel
theorem dX1_serviceProperty_82 : decode cX1_serviceProperty 82 = .ok (.getfield 108, 3) := by decide +kernel
theorem dX1_serviceProperty_85 : decode cX1_serviceProperty 85 = .ok (.ireturn, 1) := by decide +kernel
theorem dX1_serviceProperty_86 : decode cX1_serviceProperty 86 = .ok (.aload_n 3, 1) := by decide +kernel
theorem dX1_serviceProperty_87 : decode cX1_serviceProperty 87 = .ok (.getfield 235, 3) := by decide +kernel
theorem dX1_serviceProperty_90 : decode cX1_serviceProperty 90 = .ok (.ireturn, 1) := by decide +kernel
theorem dX1_serviceProperty_91 : decode cX1_serviceProperty 91 = .ok (.aload_n 3, 1) := by decide +kernel
theorem dX1_serviceProperty_92 : decode cX1_serviceProperty 92 = .ok (.getfield 252, 3) := by decide +kernel
theorem dX1_serviceProperty_95 : decode cX1_serviceProperty 95 = .ok (.ireturn, 1) := by decide +kernel
theorem dX1_serviceProperty_96 : decode cX1_serviceProperty 96 = .ok (.aload_n 3, 1) := by decide +kernel
theorem dX1_serviceProperty_97 : decode cX1_serviceProperty 97 = .ok (.getfield 259, 3) := by decide +kernel
theorem dX1_serviceProperty_100 : decode cX1_serviceProperty 100 = .ok (.ireturn, 1) := by decide +kernel
theorem dX1_serviceProperty_101 : decode cX1_serviceProperty 101 = .ok (.aload_n 3, 1) := by decide +kernel
theorem dX1_serviceProperty_102 : decode cX1_serviceProperty 102 = .ok (.getfield 179, 3) := by decide +kernel
theorem dX1_serviceProperty_105 : decode cX1_serviceProperty 105 = .ok (.ireturn, 1) := by decide +kernel
theorem dX1_serviceProperty_106 : decode cX1_serviceProperty 106 = .ok (.aload_n 0, 1) := by decide +kernel
theorem dX1_serviceProperty_107 : decode cX1_serviceProperty 107 = .ok (.iload_n 1, 1) := by decide +kernel
theorem dX1_serviceProperty_108 : decode cX1_serviceProperty 108 = .ok (.iconst 0, 1) := by decide +kernel
theorem dX1_serviceProperty_109 : decode cX1_serviceProperty 109 = .ok (.invokevirtual 248, 3) := by decide +kernel
theorem dX1_serviceProperty_112 : decode cX1_serviceProperty 112 = .ok (.ireturn, 1) := by decide +kernel
theorem dX1_serviceProperty_113 : decode cX1_serviceProperty 113 = .ok (.aload_n 0, 1) := by decide +kernel
theorem dX1_serviceProperty_114 : decode cX1_serviceProperty 114 = .ok (.iload_n 1, 1) := by decide +kernel
theorem dX1_serviceProperty_115 : decode cX1_serviceProperty 115 = .ok (.iconst 1, 1) := by decide +kernel
theorem dX1_serviceProperty_116 : decode cX1_serviceProperty 116 = .ok (.invokevirtual 248, 3) := by decide +kernel
theorem dX1_serviceProperty_119 : decode cX1_serviceProperty 119 = .ok (.ireturn, 1) := by decide +kernel
theorem dX1_serviceProperty_120 : decode cX1_serviceProperty 120 = .ok (.aload_n 3, 1) := by decide +kernel
theorem dX1_serviceProperty_121 : decode cX1_serviceProperty 121 = .ok (.getfield 167, 3) := by decide +kernel
theorem dX1_serviceProperty_124 : decode cX1_serviceProperty 124 = .ok (.ireturn, 1) := by decide +kernel
theorem dX1_serviceProperty_125 : decode cX1_serviceProperty 125 = .ok (.aload_n 3, 1) := by decide +kernel
theorem dX1_serviceProperty_126 : decode cX1_serviceProperty 126 = .ok (.getfield 190, 3) := by decide +kernel
theorem dX1_serviceProperty_129 : decode cX1_serviceProperty 129 = .ok (.ireturn, 1) := by decide +kernel
theorem dX1_serviceProperty_130 : decode cX1_serviceProperty 130 = .ok (.aload_n 3, 1) := by decide +kernel
theorem dX1_serviceProperty_131 : decode cX1_serviceProperty 131 = .ok (.getfield 262, 3) := by decide +kernel
theorem dX1_serviceProperty_134 : decode cX1_serviceProperty 134 = .ok (.iconst 0, 1) := by decide +kernel
theorem dX1_serviceProperty_135 : decode cX1_serviceProperty 135 = .ok (.iaload, 1) := by decide +kernel
theorem dX1_serviceProperty_136 : decode cX1_serviceProperty 136 = .ok (.ireturn, 1) := by decide +kernel
theorem dX1_serviceProperty_137 : decode cX1_serviceProperty 137 = .ok (.aload_n 3, 1) := by decide +kernel
theorem dX1_serviceProperty_138 : decode cX1_serviceProperty 138 = .ok (.getfield 262, 3) := by decide +kernel
theorem dX1_serviceProperty_141 : decode cX1_serviceProperty 141 = .ok (.iconst 1, 1) := by decide +kernel
theorem dX1_serviceProperty_142 : decode cX1_serviceProperty 142 = .ok (.iaload, 1) := by decide +kernel
theorem dX1_serviceProperty_143 : decode cX1_serviceProperty 143 = .ok (.ireturn, 1) := by decide +kernel
theorem dX1_serviceProperty_144 : decode cX1_serviceProperty 144 = .ok (.aload_n 3, 1) := by decide +kernel
theorem dX1_serviceProperty_145 : decode cX1_serviceProperty 145 = .ok (.getfield 262, 3) := by decide +kernel
theorem dX1_serviceProperty_148 : decode cX1_serviceProperty 148 = .ok (.iconst 2, 1) := by decide +kernel
theorem dX1_serviceProperty_149 : decode cX1_serviceProperty 149 = .ok (.iaload, 1) := by decide +kernel
theorem dX1_serviceProperty_150 : decode cX1_serviceProperty 150 = .ok (.ireturn, 1) := by decide +kernel
theorem dX1_serviceProperty_151 : decode cX1_serviceProperty 151 = .ok (.bipush (-2), 2) := by decide +kernel
theorem dX1_serviceProperty_153 : decode cX1_serviceProperty 153 = .ok (.ireturn, 1) := by decide +kernel
theorem dX1_property_0 : decode cX1_property 0 = .ok (.iload_n 1, 1) := by decide +kernel
theorem dX1_property_1 : decode cX1_property 1 = .ok (.tableswitch 114 0 10 #[59, 64, 69, 74, 79, 84, 89, 94, 99, 104, 109], 59) := by decide +kernel
theorem dX1_property_60 : decode cX1_property 60 = .ok (.aload_n 0, 1) := by decide +kernel
theorem dX1_property_61 : decode cX1_property 61 = .ok (.getfield 43, 3) := by decide +kernel
theorem dX1_property_64 : decode cX1_property 64 = .ok (.ireturn, 1) := by decide +kernel
theorem dX1_property_65 : decode cX1_property 65 = .ok (.aload_n 0, 1) := by decide +kernel
theorem dX1_property_66 : decode cX1_property 66 = .ok (.getfield 53, 3) := by decide +kernel
theorem dX1_property_69 : decode cX1_property 69 = .ok (.ireturn, 1) := by decide +kernel
theorem dX1_property_70 : decode cX1_property 70 = .ok (.aload_n 0, 1) := by decide +kernel
theorem dX1_property_71 : decode cX1_property 71 = .ok (.getfield 62, 3) := by decide +kernel
theorem dX1_property_74 : decode cX1_property 74 = .ok (.ireturn, 1) := by decide +kernel
theorem dX1_property_75 : decode cX1_property 75 = .ok (.aload_n 0, 1) := by decide +kernel
theorem dX1_property_76 : decode cX1_property 76 = .ok (.getfield 65, 3) := by decide +kernel
theorem dX1_property_79 : decode cX1_property 79 = .ok (.ireturn, 1) := by decide +kernel
theorem dX1_property_80 : decode cX1_property 80 = .ok (.aload_n 0, 1) := by decide +kernel
theorem dX1_property_81 : decode cX1_property 81 = .ok (.getfield 68, 3) := by decide +kernel
theorem dX1_property_84 : decode cX1_property 84 = .ok (.ireturn, 1) := by decide +kernel
theorem dX1_property_85 : decode cX1_property 85 = .ok (.aload_n 0, 1) := by decide +kernel
theorem dX1_property_86 : decode cX1_property 86 = .ok (.getfield 71, 3) := by decide +kernel
theorem dX1_property_89 : decode cX1_property 89 = .ok (.ireturn, 1) := by decide +kernel
theorem dX1_property_90 : decode cX1_property 90 = .ok (.aload_n 0, 1) := by decide +kernel
theorem dX1_property_91 : decode cX1_property 91 = .ok (.getfield 74, 3) := by decide +kernel
theorem dX1_property_94 : decode cX1_property 94 = .ok (.ireturn, 1) := by decide +kernel
theorem dX1_property_95 : decode cX1_property 95 = .ok (.aload_n 0, 1) := by decide +kernel
theorem dX1_property_96 : decode cX1_property 96 = .ok (.getfield 77, 3) := by decide +kernel
theorem dX1_property_99 : decode cX1_property 99 = .ok (.ireturn, 1) := by decide +kernel
theorem dX1_property_100 : decode cX1_property 100 = .ok (.aload_n 0, 1) := by decide +kernel
theorem dX1_property_101 : decode cX1_property 101 = .ok (.getfield 80, 3) := by decide +kernel
theorem dX1_property_104 : decode cX1_property 104 = .ok (.ireturn, 1) := by decide +kernel
theorem dX1_property_105 : decode cX1_property 105 = .ok (.aload_n 0, 1) := by decide +kernel
theorem dX1_property_106 : decode cX1_property 106 = .ok (.getfield 83, 3) := by decide +kernel
theorem dX1_property_109 : decode cX1_property 109 = .ok (.ireturn, 1) := by decide +kernel
theorem dX1_property_110 : decode cX1_property 110 = .ok (.aload_n 0, 1) := by decide +kernel
theorem dX1_property_111 : decode cX1_property 111 = .ok (.getfield 59, 3) := by decide +kernel
theorem dX1_property_114 : decode cX1_property 114 = .ok (.ireturn, 1) := by decide +kernel
theorem dX1_property_115 : decode cX1_property 115 = .ok (.bipush (-2), 2) := by decide +kernel
theorem dX1_property_117 : decode cX1_property 117 = .ok (.ireturn, 1) := by decide +kernel
theorem dX2_init_0 : decode cX2_init 0 = .ok (.aload_n 0, 1) := by decide +kernel
theorem dX2_init_1 : decode cX2_init 1 = .ok (.invokespecial 3, 3) := by decide +kernel
theorem dX2_init_4 : decode cX2_init 4 = .ok (.aload_n 0, 1) := by decide +kernel
theorem dX2_init_5 : decode cX2_init 5 = .ok (.bipush 60, 2) := by decide +kernel
theorem dX2_init_7 : decode cX2_init 7 = .ok (.newarray .int, 2) := by decide +kernel
theorem dX2_init_9 : decode cX2_init 9 = .ok (.putfield 9, 3) := by decide +kernel
theorem dX2_init_12 : decode cX2_init 12 = .ok (.aload_n 0, 1) := by decide +kernel
theorem dX2_init_13 : decode cX2_init 13 = .ok (.bipush 60, 2) := by decide +kernel
theorem dX2_init_15 : decode cX2_init 15 = .ok (.newarray .int, 2) := by decide +kernel
theorem dX2_init_17 : decode cX2_init 17 = .ok (.putfield 15, 3) := by decide +kernel
theorem dX2_init_20 : decode cX2_init 20 = .ok (.aload_n 0, 1) := by decide +kernel
theorem dX2_init_21 : decode cX2_init 21 = .ok (.bipush 60, 2) := by decide +kernel
theorem dX2_init_23 : decode cX2_init 23 = .ok (.newarray .int, 2) := by decide +kernel
theorem dX2_init_25 : decode cX2_init 25 = .ok (.putfield 18, 3) := by decide +kernel
theorem dX2_init_28 : decode cX2_init 28 = .ok (.aload_n 0, 1) := by decide +kernel
theorem dX2_init_29 : decode cX2_init 29 = .ok (.bipush 60, 2) := by decide +kernel
theorem dX2_init_31 : decode cX2_init 31 = .ok (.newarray .int, 2) := by decide +kernel
theorem dX2_init_33 : decode cX2_init 33 = .ok (.putfield 21, 3) := by decide +kernel
theorem dX2_init_36 : decode cX2_init 36 = .ok (.aload_n 0, 1) := by decide +kernel
theorem dX2_init_37 : decode cX2_init 37 = .ok (.bipush 60, 2) := by decide +kernel
theorem dX2_init_39 : decode cX2_init 39 = .ok (.newarray .int, 2) := by decide +kernel
theorem dX2_init_41 : decode cX2_init 41 = .ok (.putfield 24, 3) := by decide +kernel
theorem dX2_init_44 : decode cX2_init 44 = .ok (.return_, 1) := by decide +kernel
theorem dX2_start_0 : decode cX2_start 0 = .ok (.aload_n 0, 1) := by decide +kernel
theorem dX2_start_1 : decode cX2_start 1 = .ok (.iconst 0, 1) := by decide +kernel
theorem dX2_start_2 : decode cX2_start 2 = .ok (.putfield 27, 3) := by decide +kernel
theorem dX2_start_5 : decode cX2_start 5 = .ok (.aload_n 0, 1) := by decide +kernel
theorem dX2_start_6 : decode cX2_start 6 = .ok (.iconst 1, 1) := by decide +kernel
theorem dX2_start_7 : decode cX2_start 7 = .ok (.putfield 31, 3) := by decide +kernel
theorem dX2_start_10 : decode cX2_start 10 = .ok (.return_, 1) := by decide +kernel
theorem dX2_stop_0 : decode cX2_stop 0 = .ok (.aload_n 0, 1) := by decide +kernel
theorem dX2_stop_1 : decode cX2_stop 1 = .ok (.iconst 0, 1) := by decide +kernel
theorem dX2_stop_2 : decode cX2_stop 2 = .ok (.putfield 27, 3) := by decide +kernel
theorem dX2_stop_5 : decode cX2_stop 5 = .ok (.aload_n 0, 1) := by decide +kernel
theorem dX2_stop_6 : decode cX2_stop 6 = .ok (.iconst 0, 1) := by decide +kernel
theorem dX2_stop_7 : decode cX2_stop 7 = .ok (.putfield 31, 3) := by decide +kernel
theorem dX2_stop_10 : decode cX2_stop 10 = .ok (.return_, 1) := by decide +kernel
theorem dX2_addRequest_0 : decode cX2_addRequest 0 = .ok (.aload_n 0, 1) := by decide +kernel
theorem dX2_addRequest_1 : decode cX2_addRequest 1 = .ok (.iconst 1, 1) := by decide +kernel
theorem dX2_addRequest_2 : decode cX2_addRequest 2 = .ok (.invokevirtual 35, 3) := by decide +kernel
theorem dX2_addRequest_5 : decode cX2_addRequest 5 = .ok (.ifCond .eq 54, 3) := by decide +kernel
theorem dX2_addRequest_8 : decode cX2_addRequest 8 = .ok (.aload_n 0, 1) := by decide +kernel
theorem dX2_addRequest_9 : decode cX2_addRequest 9 = .ok (.getfield 9, 3) := by decide +kernel
theorem dX2_addRequest_12 : decode cX2_addRequest 12 = .ok (.aload_n 0, 1) := by decide +kernel
theorem dX2_addRequest_13 : decode cX2_addRequest 13 = .ok (.getfield 27, 3) := by decide +kernel
theorem dX2_addRequest_16 : decode cX2_addRequest 16 = .ok (.iload_n 1, 1) := by decide +kernel
theorem dX2_addRequest_17 : decode cX2_addRequest 17 = .ok (.iastore, 1) := by decide +kernel
theorem dX2_addRequest_18 : decode cX2_addRequest 18 = .ok (.aload_n 0, 1) := by decide +kernel
theorem dX2_addRequest_19 : decode cX2_addRequest 19 = .ok (.getfield 15, 3) := by decide +kernel
theorem dX2_addRequest_22 : decode cX2_addRequest 22 = .ok (.aload_n 0, 1) := by decide +kernel
theorem dX2_addRequest_23 : decode cX2_addRequest 23 = .ok (.getfield 27, 3) := by decide +kernel
theorem dX2_addRequest_26 : decode cX2_addRequest 26 = .ok (.iload_n 2, 1) := by decide +kernel
theorem dX2_addRequest_27 : decode cX2_addRequest 27 = .ok (.iastore, 1) := by decide +kernel
theorem dX2_addRequest_28 : decode cX2_addRequest 28 = .ok (.aload_n 0, 1) := by decide +kernel
theorem dX2_addRequest_29 : decode cX2_addRequest 29 = .ok (.getfield 18, 3) := by decide +kernel
theorem dX2_addRequest_32 : decode cX2_addRequest 32 = .ok (.aload_n 0, 1) := by decide +kernel
theorem dX2_addRequest_33 : decode cX2_addRequest 33 = .ok (.getfield 27, 3) := by decide +kernel
theorem dX2_addRequest_36 : decode cX2_addRequest 36 = .ok (.iload_n 3, 1) := by decide +kernel
theorem dX2_addRequest_37 : decode cX2_addRequest 37 = .ok (.iastore, 1) := by decide +kernel
theorem dX2_addRequest_38 : decode cX2_addRequest 38 = .ok (.aload_n 0, 1) := by decide +kernel
theorem dX2_addRequest_39 : decode cX2_addRequest 39 = .ok (.getfield 21, 3) := by decide +kernel
theorem dX2_addRequest_42 : decode cX2_addRequest 42 = .ok (.aload_n 0, 1) := by decide +kernel
theorem dX2_addRequest_43 : decode cX2_addRequest 43 = .ok (.getfield 27, 3) := by decide +kernel
theorem dX2_addRequest_46 : decode cX2_addRequest 46 = .ok (.iload 4, 2) := by decide +kernel
theorem dX2_addRequest_48 : decode cX2_addRequest 48 = .ok (.iastore, 1) := by decide +kernel
theorem dX2_addRequest_49 : decode cX2_addRequest 49 = .ok (.aload_n 0, 1) := by decide +kernel
theorem dX2_addRequest_50 : decode cX2_addRequest 50 = .ok (.dup, 1) := by decide +kernel
theorem dX2_addRequest_51 : decode cX2_addRequest 51 = .ok (.getfield 27, 3) := by decide +kernel
theorem dX2_addRequest_54 : decode cX2_addRequest 54 = .ok (.iconst 1, 1) := by decide +kernel
theorem dX2_addRequest_55 : decode cX2_addRequest 55 = .ok (.iadd, 1) := by decide +kernel
theorem dX2_addRequest_56 : decode cX2_addRequest 56 = .ok (.putfield 27, 3) := by decide +kernel
theorem dX2_addRequest_59 : decode cX2_addRequest 59 = .ok (.return_, 1) := by decide +kernel
theorem dX2_addTicks_0 : decode cX2_addTicks 0 = .ok (.aload_n 0, 1) := by decide +kernel
theorem dX2_addTicks_1 : decode cX2_addTicks 1 = .ok (.iload_n 1, 1) := by decide +kernel
theorem dX2_addTicks_2 : decode cX2_addTicks 2 = .ok (.invokevirtual 35, 3) := by decide +kernel
theorem dX2_addTicks_5 : decode cX2_addTicks 5 = .ok (.ifCond .eq 37, 3) := by decide +kernel
theorem dX2_addTicks_8 : decode cX2_addTicks 8 = .ok (.iconst 0, 1) := by decide +kernel
theorem dX2_addTicks_9 : decode cX2_addTicks 9 = .ok (.istore_n 2, 1) := by decide +kernel
theorem dX2_addTicks_10 : decode cX2_addTicks 10 = .ok (.iload_n 2, 1) := by decide +kernel
theorem dX2_addTicks_11 : decode cX2_addTicks 11 = .ok (.iload_n 1, 1) := by decide +kernel
theorem dX2_addTicks_12 : decode cX2_addTicks 12 = .ok (.if_icmp .ge 30, 3) := by decide +kernel
theorem dX2_addTicks_15 : decode cX2_addTicks 15 = .ok (.aload_n 0, 1) := by decide +kernel
theorem dX2_addTicks_16 : decode cX2_addTicks 16 = .ok (.getfield 9, 3) := by decide +kernel
theorem dX2_addTicks_19 : decode cX2_addTicks 19 = .ok (.aload_n 0, 1) := by decide +kernel
theorem dX2_addTicks_20 : decode cX2_addTicks 20 = .ok (.getfield 27, 3) := by decide +kernel
theorem dX2_addTicks_23 : decode cX2_addTicks 23 = .ok (.bipush (-2), 2) := by decide +kernel
theorem dX2_addTicks_25 : decode cX2_addTicks 25 = .ok (.iastore, 1) := by decide +kernel
theorem dX2_addTicks_26 : decode cX2_addTicks 26 = .ok (.aload_n 0, 1) := by decide +kernel
theorem dX2_addTicks_27 : decode cX2_addTicks 27 = .ok (.dup, 1) := by decide +kernel
theorem dX2_addTicks_28 : decode cX2_addTicks 28 = .ok (.getfield 27, 3) := by decide +kernel
theorem dX2_addTicks_31 : decode cX2_addTicks 31 = .ok (.iconst 1, 1) := by decide +kernel
theorem dX2_addTicks_32 : decode cX2_addTicks 32 = .ok (.iadd, 1) := by decide +kernel
theorem dX2_addTicks_33 : decode cX2_addTicks 33 = .ok (.putfield 27, 3) := by decide +kernel
theorem dX2_addTicks_36 : decode cX2_addTicks 36 = .ok (.iinc 2 1, 3) := by decide +kernel
theorem dX2_addTicks_39 : decode cX2_addTicks 39 = .ok (.goto (-29), 3) := by decide +kernel
theorem dX2_addTicks_42 : decode cX2_addTicks 42 = .ok (.return_, 1) := by decide +kernel
theorem dX2_makesRoomFor_0 : decode cX2_makesRoomFor 0 = .ok (.aload_n 0, 1) := by decide +kernel
theorem dX2_makesRoomFor_1 : decode cX2_makesRoomFor 1 = .ok (.getfield 27, 3) := by decide +kernel
theorem dX2_makesRoomFor_4 : decode cX2_makesRoomFor 4 = .ok (.iload_n 1, 1) := by decide +kernel
theorem dX2_makesRoomFor_5 : decode cX2_makesRoomFor 5 = .ok (.iadd, 1) := by decide +kernel
theorem dX2_makesRoomFor_6 : decode cX2_makesRoomFor 6 = .ok (.bipush 60, 2) := by decide +kernel
theorem dX2_makesRoomFor_8 : decode cX2_makesRoomFor 8 = .ok (.if_icmp .le 7, 3) := by decide +kernel
theorem dX2_makesRoomFor_11 : decode cX2_makesRoomFor 11 = .ok (.aload_n 0, 1) := by decide +kernel
theorem dX2_makesRoomFor_12 : decode cX2_makesRoomFor 12 = .ok (.invokevirtual 39, 3) := by decide +kernel
theorem dX2_makesRoomFor_15 : decode cX2_makesRoomFor 15 = .ok (.aload_n 0, 1) := by decide +kernel
theorem dX2_makesRoomFor_16 : decode cX2_makesRoomFor 16 = .ok (.getfield 31, 3) := by decide +kernel
theorem dX2_makesRoomFor_19 : decode cX2_makesRoomFor 19 = .ok (.ireturn, 1) := by decide +kernel
theorem dX2_changedAnswers_0 : decode cX2_changedAnswers 0 = .ok (.iconst 0, 1) := by decide +kernel
theorem dX2_changedAnswers_1 : decode cX2_changedAnswers 1 = .ok (.istore_n 1, 1) := by decide +kernel
theorem dX2_changedAnswers_2 : decode cX2_changedAnswers 2 = .ok (.iconst 0, 1) := by decide +kernel
theorem dX2_changedAnswers_3 : decode cX2_changedAnswers 3 = .ok (.istore_n 2, 1) := by decide +kernel
theorem dX2_changedAnswers_4 : decode cX2_changedAnswers 4 = .ok (.iload_n 2, 1) := by decide +kernel
theorem dX2_changedAnswers_5 : decode cX2_changedAnswers 5 = .ok (.aload_n 0, 1) := by decide +kernel
theorem dX2_changedAnswers_6 : decode cX2_changedAnswers 6 = .ok (.getfield 27, 3) := by decide +kernel
theorem dX2_changedAnswers_9 : decode cX2_changedAnswers 9 = .ok (.if_icmp .ge 38, 3) := by decide +kernel
theorem dX2_changedAnswers_12 : decode cX2_changedAnswers 12 = .ok (.aload_n 0, 1) := by decide +kernel
theorem dX2_changedAnswers_13 : decode cX2_changedAnswers 13 = .ok (.getfield 9, 3) := by decide +kernel
theorem dX2_changedAnswers_16 : decode cX2_changedAnswers 16 = .ok (.iload_n 2, 1) := by decide +kernel
theorem dX2_changedAnswers_17 : decode cX2_changedAnswers 17 = .ok (.iaload, 1) := by decide +kernel
theorem dX2_changedAnswers_18 : decode cX2_changedAnswers 18 = .ok (.bipush (-2), 2) := by decide +kernel
theorem dX2_changedAnswers_20 : decode cX2_changedAnswers 20 = .ok (.if_icmp .eq 21, 3) := by decide +kernel
theorem dX2_changedAnswers_23 : decode cX2_changedAnswers 23 = .ok (.aload_n 0, 1) := by decide +kernel
theorem dX2_changedAnswers_24 : decode cX2_changedAnswers 24 = .ok (.getfield 24, 3) := by decide +kernel
theorem dX2_changedAnswers_27 : decode cX2_changedAnswers 27 = .ok (.iload_n 2, 1) := by decide +kernel
theorem dX2_changedAnswers_28 : decode cX2_changedAnswers 28 = .ok (.iaload, 1) := by decide +kernel
theorem dX2_changedAnswers_29 : decode cX2_changedAnswers 29 = .ok (.aload_n 0, 1) := by decide +kernel
theorem dX2_changedAnswers_30 : decode cX2_changedAnswers 30 = .ok (.getfield 21, 3) := by decide +kernel
theorem dX2_changedAnswers_33 : decode cX2_changedAnswers 33 = .ok (.iload_n 2, 1) := by decide +kernel
theorem dX2_changedAnswers_34 : decode cX2_changedAnswers 34 = .ok (.iaload, 1) := by decide +kernel
theorem dX2_changedAnswers_35 : decode cX2_changedAnswers 35 = .ok (.if_icmp .eq 6, 3) := by decide +kernel
theorem dX2_changedAnswers_38 : decode cX2_changedAnswers 38 = .ok (.iinc 1 1, 3) := by decide +kernel
theorem dX2_changedAnswers_41 : decode cX2_changedAnswers 41 = .ok (.iinc 2 1, 3) := by decide +kernel
theorem dX2_changedAnswers_44 : decode cX2_changedAnswers 44 = .ok (.goto (-40), 3) := by decide +kernel
theorem dX2_changedAnswers_47 : decode cX2_changedAnswers 47 = .ok (.iload_n 1, 1) := by decide +kernel
theorem dX2_changedAnswers_48 : decode cX2_changedAnswers 48 = .ok (.ireturn, 1) := by decide +kernel
theorem dX2_answersByBackends_0 : decode cX2_answersByBackends 0 = .ok (.iconst 0, 1) := by decide +kernel
theorem dX2_answersByBackends_1 : decode cX2_answersByBackends 1 = .ok (.istore_n 1, 1) := by decide +kernel
theorem dX2_answersByBackends_2 : decode cX2_answersByBackends 2 = .ok (.iconst 0, 1) := by decide +kernel
theorem dX2_answersByBackends_3 : decode cX2_answersByBackends 3 = .ok (.istore_n 2, 1) := by decide +kernel
theorem dX2_answersByBackends_4 : decode cX2_answersByBackends 4 = .ok (.iload_n 2, 1) := by decide +kernel
theorem dX2_answersByBackends_5 : decode cX2_answersByBackends 5 = .ok (.aload_n 0, 1) := by decide +kernel
theorem dX2_answersByBackends_6 : decode cX2_answersByBackends 6 = .ok (.getfield 27, 3) := by decide +kernel
theorem dX2_answersByBackends_9 : decode cX2_answersByBackends 9 = .ok (.if_icmp .ge 32, 3) := by decide +kernel
theorem dX2_answersByBackends_12 : decode cX2_answersByBackends 12 = .ok (.aload_n 0, 1) := by decide +kernel
theorem dX2_answersByBackends_13 : decode cX2_answersByBackends 13 = .ok (.getfield 9, 3) := by decide +kernel
theorem dX2_answersByBackends_16 : decode cX2_answersByBackends 16 = .ok (.iload_n 2, 1) := by decide +kernel
theorem dX2_answersByBackends_17 : decode cX2_answersByBackends 17 = .ok (.iaload, 1) := by decide +kernel
theorem dX2_answersByBackends_18 : decode cX2_answersByBackends 18 = .ok (.bipush (-2), 2) := by decide +kernel
theorem dX2_answersByBackends_20 : decode cX2_answersByBackends 20 = .ok (.if_icmp .eq 15, 3) := by decide +kernel
theorem dX2_answersByBackends_23 : decode cX2_answersByBackends 23 = .ok (.aload_n 0, 1) := by decide +kernel
theorem dX2_answersByBackends_24 : decode cX2_answersByBackends 24 = .ok (.getfield 24, 3) := by decide +kernel
theorem dX2_answersByBackends_27 : decode cX2_answersByBackends 27 = .ok (.iload_n 2, 1) := by decide +kernel
theorem dX2_answersByBackends_28 : decode cX2_answersByBackends 28 = .ok (.iaload, 1) := by decide +kernel
theorem dX2_answersByBackends_29 : decode cX2_answersByBackends 29 = .ok (.ifCond .lt 6, 3) := by decide +kernel
theorem dX2_answersByBackends_32 : decode cX2_answersByBackends 32 = .ok (.iinc 1 1, 3) := by decide +kernel
theorem dX2_answersByBackends_35 : decode cX2_answersByBackends 35 = .ok (.iinc 2 1, 3) := by decide +kernel
theorem dX2_answersByBackends_38 : decode cX2_answersByBackends 38 = .ok (.goto (-34), 3) := by decide +kernel
theorem dX2_answersByBackends_41 : decode cX2_answersByBackends 41 = .ok (.iload_n 1, 1) := by decide +kernel
theorem dX2_answersByBackends_42 : decode cX2_answersByBackends 42 = .ok (.ireturn, 1) := by decide +kernel
theorem dX3_init_0 : decode cX3_init 0 = .ok (.aload_n 0, 1) := by decide +kernel
theorem dX3_init_1 : decode cX3_init 1 = .ok (.invokespecial 3, 3) := by decide +kernel
theorem dX3_init_4 : decode cX3_init 4 = .ok (.aload_n 0, 1) := by decide +kernel
theorem dX3_init_5 : decode cX3_init 5 = .ok (.new 9, 3) := by decide +kernel
theorem dX3_init_8 : decode cX3_init 8 = .ok (.dup, 1) := by decide +kernel
theorem dX3_init_9 : decode cX3_init 9 = .ok (.invokespecial 11, 3) := by decide +kernel
theorem dX3_init_12 : decode cX3_init 12 = .ok (.putfield 12, 3) := by decide +kernel
theorem dX3_init_15 : decode cX3_init 15 = .ok (.aload_n 0, 1) := by decide +kernel
theorem dX3_init_16 : decode cX3_init 16 = .ok (.iconst 3, 1) := by decide +kernel
theorem dX3_init_17 : decode cX3_init 17 = .ok (.anewarray 18, 3) := by decide +kernel
theorem dX3_init_20 : decode cX3_init 20 = .ok (.putfield 20, 3) := by decide +kernel
theorem dX3_init_23 : decode cX3_init 23 = .ok (.iconst 0, 1) := by decide +kernel
theorem dX3_init_24 : decode cX3_init 24 = .ok (.istore_n 1, 1) := by decide +kernel
theorem dX3_init_25 : decode cX3_init 25 = .ok (.iload_n 1, 1) := by decide +kernel
theorem dX3_init_26 : decode cX3_init 26 = .ok (.iconst 3, 1) := by decide +kernel
theorem dX3_init_27 : decode cX3_init 27 = .ok (.if_icmp .ge 22, 3) := by decide +kernel
theorem dX3_init_30 : decode cX3_init 30 = .ok (.aload_n 0, 1) := by decide +kernel
theorem dX3_init_31 : decode cX3_init 31 = .ok (.getfield 20, 3) := by decide +kernel
theorem dX3_init_34 : decode cX3_init 34 = .ok (.iload_n 1, 1) := by decide +kernel
theorem dX3_init_35 : decode cX3_init 35 = .ok (.new 18, 3) := by decide +kernel
theorem dX3_init_38 : decode cX3_init 38 = .ok (.dup, 1) := by decide +kernel
theorem dX3_init_39 : decode cX3_init 39 = .ok (.invokespecial 24, 3) := by decide +kernel
theorem dX3_init_42 : decode cX3_init 42 = .ok (.aastore, 1) := by decide +kernel
theorem dX3_init_43 : decode cX3_init 43 = .ok (.iinc 1 1, 3) := by decide +kernel
theorem dX3_init_46 : decode cX3_init 46 = .ok (.goto (-21), 3) := by decide +kernel
theorem dX3_init_49 : decode cX3_init 49 = .ok (.aload_n 0, 1) := by decide +kernel
theorem dX3_init_50 : decode cX3_init 50 = .ok (.invokevirtual 25, 3) := by decide +kernel
theorem dX3_init_53 : decode cX3_init 53 = .ok (.return_, 1) := by decide +kernel
theorem dX3_begin_0 : decode cX3_begin 0 = .ok (.aload_n 0, 1) := by decide +kernel
theorem dX3_begin_1 : decode cX3_begin 1 = .ok (.getfield 12, 3) := by decide +kernel
theorem dX3_begin_4 : decode cX3_begin 4 = .ok (.invokevirtual 28, 3) := by decide +kernel
theorem dX3_begin_7 : decode cX3_begin 7 = .ok (.aload_n 0, 1) := by decide +kernel
theorem dX3_begin_8 : decode cX3_begin 8 = .ok (.iconst 0, 1) := by decide +kernel
theorem dX3_begin_9 : decode cX3_begin 9 = .ok (.putfield 31, 3) := by decide +kernel
theorem dX3_begin_12 : decode cX3_begin 12 = .ok (.aload_n 0, 1) := by decide +kernel
theorem dX3_begin_13 : decode cX3_begin 13 = .ok (.bipush 9, 2) := by decide +kernel
theorem dX3_begin_15 : decode cX3_begin 15 = .ok (.putfield 35, 3) := by decide +kernel
theorem dX3_begin_18 : decode cX3_begin 18 = .ok (.aload_n 0, 1) := by decide +kernel
theorem dX3_begin_19 : decode cX3_begin 19 = .ok (.iconst 0, 1) := by decide +kernel
theorem dX3_begin_20 : decode cX3_begin 20 = .ok (.putfield 38, 3) := by decide +kernel
theorem dX3_begin_23 : decode cX3_begin 23 = .ok (.aload_n 0, 1) := by decide +kernel
theorem dX3_begin_24 : decode cX3_begin 24 = .ok (.iconst 1, 1) := by decide +kernel
theorem dX3_begin_25 : decode cX3_begin 25 = .ok (.putfield 41, 3) := by decide +kernel
theorem dX3_begin_28 : decode cX3_begin 28 = .ok (.aload_n 0, 1) := by decide +kernel
theorem dX3_begin_29 : decode cX3_begin 29 = .ok (.iconst (-1), 1) := by decide +kernel
theorem dX3_begin_30 : decode cX3_begin 30 = .ok (.putfield 44, 3) := by decide +kernel
theorem dX3_begin_33 : decode cX3_begin 33 = .ok (.return_, 1) := by decide +kernel
theorem dX3_copyFrom_0 : decode cX3_copyFrom 0 = .ok (.aload_n 0, 1) := by decide +kernel
theorem dX3_copyFrom_1 : decode cX3_copyFrom 1 = .ok (.getfield 12, 3) := by decide +kernel
theorem dX3_copyFrom_4 : decode cX3_copyFrom 4 = .ok (.invokevirtual 28, 3) := by decide +kernel
theorem dX3_copyFrom_7 : decode cX3_copyFrom 7 = .ok (.aload_n 0, 1) := by decide +kernel
theorem dX3_copyFrom_8 : decode cX3_copyFrom 8 = .ok (.getfield 12, 3) := by decide +kernel
theorem dX3_copyFrom_11 : decode cX3_copyFrom 11 = .ok (.aload_n 1, 1) := by decide +kernel
theorem dX3_copyFrom_12 : decode cX3_copyFrom 12 = .ok (.getfield 12, 3) := by decide +kernel
theorem dX3_copyFrom_15 : decode cX3_copyFrom 15 = .ok (.invokevirtual 47, 3) := by decide +kernel
theorem dX3_copyFrom_18 : decode cX3_copyFrom 18 = .ok (.aload_n 0, 1) := by decide +kernel
theorem dX3_copyFrom_19 : decode cX3_copyFrom 19 = .ok (.aload_n 1, 1) := by decide +kernel
theorem dX3_copyFrom_20 : decode cX3_copyFrom 20 = .ok (.getfield 31, 3) := by decide +kernel
theorem dX3_copyFrom_23 : decode cX3_copyFrom 23 = .ok (.putfield 31, 3) := by decide +kernel
theorem dX3_copyFrom_26 : decode cX3_copyFrom 26 = .ok (.aload_n 0, 1) := by decide +kernel
theorem dX3_copyFrom_27 : decode cX3_copyFrom 27 = .ok (.aload_n 1, 1) := by decide +kernel
theorem dX3_copyFrom_28 : decode cX3_copyFrom 28 = .ok (.getfield 35, 3) := by decide +kernel
theorem dX3_copyFrom_31 : decode cX3_copyFrom 31 = .ok (.putfield 35, 3) := by decide +kernel
theorem dX3_copyFrom_34 : decode cX3_copyFrom 34 = .ok (.aload_n 0, 1) := by decide +kernel
theorem dX3_copyFrom_35 : decode cX3_copyFrom 35 = .ok (.aload_n 1, 1) := by decide +kernel
theorem dX3_copyFrom_36 : decode cX3_copyFrom 36 = .ok (.getfield 38, 3) := by decide +kernel
theorem dX3_copyFrom_39 : decode cX3_copyFrom 39 = .ok (.putfield 38, 3) := by decide +kernel
theorem dX3_copyFrom_42 : decode cX3_copyFrom 42 = .ok (.iconst 0, 1) := by decide +kernel
theorem dX3_copyFrom_43 : decode cX3_copyFrom 43 = .ok (.istore_n 2, 1) := by decide +kernel
theorem dX3_copyFrom_44 : decode cX3_copyFrom 44 = .ok (.iload_n 2, 1) := by decide +kernel
theorem dX3_copyFrom_45 : decode cX3_copyFrom 45 = .ok (.aload_n 0, 1) := by decide +kernel
theorem dX3_copyFrom_46 : decode cX3_copyFrom 46 = .ok (.getfield 38, 3) := by decide +kernel
theorem dX3_copyFrom_49 : decode cX3_copyFrom 49 = .ok (.if_icmp .ge 24, 3) := by decide +kernel
theorem dX3_copyFrom_52 : decode cX3_copyFrom 52 = .ok (.aload_n 0, 1) := by decide +kernel
theorem dX3_copyFrom_53 : decode cX3_copyFrom 53 = .ok (.getfield 20, 3) := by decide +kernel
theorem dX3_copyFrom_56 : decode cX3_copyFrom 56 = .ok (.iload_n 2, 1) := by decide +kernel
theorem dX3_copyFrom_57 : decode cX3_copyFrom 57 = .ok (.aaload, 1) := by decide +kernel
theorem dX3_copyFrom_58 : decode cX3_copyFrom 58 = .ok (.aload_n 1, 1) := by decide +kernel
theorem dX3_copyFrom_59 : decode cX3_copyFrom 59 = .ok (.getfield 20, 3) := by decide +kernel
theorem dX3_copyFrom_62 : decode cX3_copyFrom 62 = .ok (.iload_n 2, 1) := by decide +kernel
theorem dX3_copyFrom_63 : decode cX3_copyFrom 63 = .ok (.aaload, 1) := by decide +kernel
theorem dX3_copyFrom_64 : decode cX3_copyFrom 64 = .ok (.invokevirtual 51, 3) := by decide +kernel
theorem dX3_copyFrom_67 : decode cX3_copyFrom 67 = .ok (.iinc 2 1, 3) := by decide +kernel
theorem dX3_copyFrom_70 : decode cX3_copyFrom 70 = .ok (.goto (-26), 3) := by decide +kernel
theorem dX3_copyFrom_73 : decode cX3_copyFrom 73 = .ok (.aload_n 0, 1) := by decide +kernel
theorem dX3_copyFrom_74 : decode cX3_copyFrom 74 = .ok (.aload_n 1, 1) := by decide +kernel
theorem dX3_copyFrom_75 : decode cX3_copyFrom 75 = .ok (.getfield 41, 3) := by decide +kernel
theorem dX3_copyFrom_78 : decode cX3_copyFrom 78 = .ok (.putfield 41, 3) := by decide +kernel
theorem dX3_copyFrom_81 : decode cX3_copyFrom 81 = .ok (.aload_n 0, 1) := by decide +kernel
theorem dX3_copyFrom_82 : decode cX3_copyFrom 82 = .ok (.aload_n 1, 1) := by decide +kernel
theorem dX3_copyFrom_83 : decode cX3_copyFrom 83 = .ok (.getfield 44, 3) := by decide +kernel
theorem dX3_copyFrom_86 : decode cX3_copyFrom 86 = .ok (.putfield 44, 3) := by decide +kernel
theorem dX3_copyFrom_89 : decode cX3_copyFrom 89 = .ok (.return_, 1) := by decide +kernel
theorem dX3_matches_0 : decode cX3_matches 0 = .ok (.iload_n 2, 1) := by decide +kernel
theorem dX3_matches_1 : decode cX3_matches 1 = .ok (.aload_n 0, 1) := by decide +kernel
theorem dX3_matches_2 : decode cX3_matches 2 = .ok (.getfield 31, 3) := by decide +kernel
theorem dX3_matches_5 : decode cX3_matches 5 = .ok (.aload_n 0, 1) := by decide +kernel
theorem dX3_matches_6 : decode cX3_matches 6 = .ok (.getfield 35, 3) := by decide +kernel
theorem dX3_matches_9 : decode cX3_matches 9 = .ok (.invokestatic 55, 3) := by decide +kernel
theorem dX3_matches_12 : decode cX3_matches 12 = .ok (.ifCond .eq 18, 3) := by decide +kernel
theorem dX3_matches_15 : decode cX3_matches 15 = .ok (.aload_n 1, 1) := by decide +kernel
theorem dX3_matches_16 : decode cX3_matches 16 = .ok (.aload_n 0, 1) := by decide +kernel
theorem dX3_matches_17 : decode cX3_matches 17 = .ok (.getfield 12, 3) := by decide +kernel
theorem dX3_matches_20 : decode cX3_matches 20 = .ok (.invokevirtual 59, 3) := by decide +kernel
theorem dX3_matches_23 : decode cX3_matches 23 = .ok (.ifCond .eq 7, 3) := by decide +kernel
theorem dX3_matches_26 : decode cX3_matches 26 = .ok (.iconst 1, 1) := by decide +kernel
theorem dX3_matches_27 : decode cX3_matches 27 = .ok (.goto 4, 3) := by decide +kernel
theorem dX3_matches_30 : decode cX3_matches 30 = .ok (.iconst 0, 1) := by decide +kernel
theorem dX3_matches_31 : decode cX3_matches 31 = .ok (.ireturn, 1) := by decide +kernel
theorem dX3_hasTarget_0 : decode cX3_hasTarget 0 = .ok (.iconst 0, 1) := by decide +kernel
theorem dX3_hasTarget_1 : decode cX3_hasTarget 1 = .ok (.istore_n 2, 1) := by decide +kernel
theorem dX3_hasTarget_2 : decode cX3_hasTarget 2 = .ok (.iload_n 2, 1) := by decide +kernel
theorem dX3_hasTarget_3 : decode cX3_hasTarget 3 = .ok (.aload_n 0, 1) := by decide +kernel
theorem dX3_hasTarget_4 : decode cX3_hasTarget 4 = .ok (.getfield 38, 3) := by decide +kernel
theorem dX3_hasTarget_7 : decode cX3_hasTarget 7 = .ok (.if_icmp .ge 24, 3) := by decide +kernel
theorem dX3_hasTarget_10 : decode cX3_hasTarget 10 = .ok (.aload_n 0, 1) := by decide +kernel
theorem dX3_hasTarget_11 : decode cX3_hasTarget 11 = .ok (.getfield 20, 3) := by decide +kernel
theorem dX3_hasTarget_14 : decode cX3_hasTarget 14 = .ok (.iload_n 2, 1) := by decide +kernel
theorem dX3_hasTarget_15 : decode cX3_hasTarget 15 = .ok (.aaload, 1) := by decide +kernel
theorem dX3_hasTarget_16 : decode cX3_hasTarget 16 = .ok (.getfield 63, 3) := by decide +kernel
theorem dX3_hasTarget_19 : decode cX3_hasTarget 19 = .ok (.iload_n 1, 1) := by decide +kernel
theorem dX3_hasTarget_20 : decode cX3_hasTarget 20 = .ok (.if_icmp .ne 5, 3) := by decide +kernel
theorem dX3_hasTarget_23 : decode cX3_hasTarget 23 = .ok (.iconst 1, 1) := by decide +kernel
theorem dX3_hasTarget_24 : decode cX3_hasTarget 24 = .ok (.ireturn, 1) := by decide +kernel
theorem dX3_hasTarget_25 : decode cX3_hasTarget 25 = .ok (.iinc 2 1, 3) := by decide +kernel
theorem dX3_hasTarget_28 : decode cX3_hasTarget 28 = .ok (.goto (-26), 3) := by decide +kernel
theorem dX3_hasTarget_31 : decode cX3_hasTarget 31 = .ok (.iconst 0, 1) := by decide +kernel
theorem dX3_hasTarget_32 : decode cX3_hasTarget 32 = .ok (.ireturn, 1) := by decide +kernel
theorem dX3_takeTarget_0 : decode cX3_takeTarget 0 = .ok (.aload_n 0, 1) := by decide +kernel
theorem dX3_takeTarget_1 : decode cX3_takeTarget 1 = .ok (.getfield 38, 3) := by decide +kernel
theorem dX3_takeTarget_4 : decode cX3_takeTarget 4 = .ok (.iconst 3, 1) := by decide +kernel
theorem dX3_takeTarget_5 : decode cX3_takeTarget 5 = .ok (.if_icmp .ge 27, 3) := by decide +kernel
theorem dX3_takeTarget_8 : decode cX3_takeTarget 8 = .ok (.aload_n 0, 1) := by decide +kernel
theorem dX3_takeTarget_9 : decode cX3_takeTarget 9 = .ok (.getfield 20, 3) := by decide +kernel
theorem dX3_takeTarget_12 : decode cX3_takeTarget 12 = .ok (.aload_n 0, 1) := by decide +kernel
theorem dX3_takeTarget_13 : decode cX3_takeTarget 13 = .ok (.getfield 38, 3) := by decide +kernel
theorem dX3_takeTarget_16 : decode cX3_takeTarget 16 = .ok (.aaload, 1) := by decide +kernel
theorem dX3_takeTarget_17 : decode cX3_takeTarget 17 = .ok (.iload_n 1, 1) := by decide +kernel
theorem dX3_takeTarget_18 : decode cX3_takeTarget 18 = .ok (.iload_n 2, 1) := by decide +kernel
theorem dX3_takeTarget_19 : decode cX3_takeTarget 19 = .ok (.invokevirtual 66, 3) := by decide +kernel
theorem dX3_takeTarget_22 : decode cX3_takeTarget 22 = .ok (.aload_n 0, 1) := by decide +kernel
theorem dX3_takeTarget_23 : decode cX3_takeTarget 23 = .ok (.dup, 1) := by decide +kernel
theorem dX3_takeTarget_24 : decode cX3_takeTarget 24 = .ok (.getfield 38, 3) := by decide +kernel
theorem dX3_takeTarget_27 : decode cX3_takeTarget 27 = .ok (.iconst 1, 1) := by decide +kernel
theorem dX3_takeTarget_28 : decode cX3_takeTarget 28 = .ok (.iadd, 1) := by decide +kernel
theorem dX3_takeTarget_29 : decode cX3_takeTarget 29 = .ok (.putfield 38, 3) := by decide +kernel
theorem dX3_takeTarget_32 : decode cX3_takeTarget 32 = .ok (.return_, 1) := by decide +kernel
theorem dX3_printTo_0 : decode cX3_printTo 0 = .ok (.aload_n 1, 1) := by decide +kernel
theorem dX3_printTo_1 : decode cX3_printTo 1 = .ok (.invokevirtual 28, 3) := by decide +kernel
theorem dX3_printTo_4 : decode cX3_printTo 4 = .ok (.aload_n 1, 1) := by decide +kernel
theorem dX3_printTo_5 : decode cX3_printTo 5 = .ok (.aload_n 0, 1) := by decide +kernel
theorem dX3_printTo_6 : decode cX3_printTo 6 = .ok (.getfield 12, 3) := by decide +kernel
theorem dX3_printTo_9 : decode cX3_printTo 9 = .ok (.invokevirtual 47, 3) := by decide +kernel
theorem dX3_printTo_12 : decode cX3_printTo 12 = .ok (.aload_n 0, 1) := by decide +kernel
theorem dX3_printTo_13 : decode cX3_printTo 13 = .ok (.getfield 31, 3) := by decide +kernel
theorem dX3_printTo_16 : decode cX3_printTo 16 = .ok (.ifCond .ne 12, 3) := by decide +kernel
theorem dX3_printTo_19 : decode cX3_printTo 19 = .ok (.aload_n 0, 1) := by decide +kernel
theorem dX3_printTo_20 : decode cX3_printTo 20 = .ok (.getfield 35, 3) := by decide +kernel
theorem dX3_printTo_23 : decode cX3_printTo 23 = .ok (.bipush 9, 2) := by decide +kernel
theorem dX3_printTo_25 : decode cX3_printTo 25 = .ok (.if_icmp .eq 37, 3) := by decide +kernel
theorem dX3_printTo_28 : decode cX3_printTo 28 = .ok (.aload_n 1, 1) := by decide +kernel
theorem dX3_printTo_29 : decode cX3_printTo 29 = .ok (.bipush 91, 2) := by decide +kernel
theorem dX3_printTo_31 : decode cX3_printTo 31 = .ok (.invokevirtual 69, 3) := by decide +kernel
theorem dX3_printTo_34 : decode cX3_printTo 34 = .ok (.aload_n 1, 1) := by decide +kernel
theorem dX3_printTo_35 : decode cX3_printTo 35 = .ok (.aload_n 0, 1) := by decide +kernel
theorem dX3_printTo_36 : decode cX3_printTo 36 = .ok (.getfield 31, 3) := by decide +kernel
theorem dX3_printTo_39 : decode cX3_printTo 39 = .ok (.invokevirtual 73, 3) := by decide +kernel
theorem dX3_printTo_42 : decode cX3_printTo 42 = .ok (.aload_n 1, 1) := by decide +kernel
theorem dX3_printTo_43 : decode cX3_printTo 43 = .ok (.bipush 45, 2) := by decide +kernel
theorem dX3_printTo_45 : decode cX3_printTo 45 = .ok (.invokevirtual 69, 3) := by decide +kernel
theorem dX3_printTo_48 : decode cX3_printTo 48 = .ok (.aload_n 1, 1) := by decide +kernel
theorem dX3_printTo_49 : decode cX3_printTo 49 = .ok (.aload_n 0, 1) := by decide +kernel
theorem dX3_printTo_50 : decode cX3_printTo 50 = .ok (.getfield 35, 3) := by decide +kernel
theorem dX3_printTo_53 : decode cX3_printTo 53 = .ok (.invokevirtual 73, 3) := by decide +kernel
theorem dX3_printTo_56 : decode cX3_printTo 56 = .ok (.aload_n 1, 1) := by decide +kernel
theorem dX3_printTo_57 : decode cX3_printTo 57 = .ok (.bipush 93, 2) := by decide +kernel
theorem dX3_printTo_59 : decode cX3_printTo 59 = .ok (.invokevirtual 69, 3) := by decide +kernel
theorem dX3_printTo_62 : decode cX3_printTo 62 = .ok (.iconst 0, 1) := by decide +kernel
theorem dX3_printTo_63 : decode cX3_printTo 63 = .ok (.istore_n 2, 1) := by decide +kernel
theorem dX3_printTo_64 : decode cX3_printTo 64 = .ok (.iload_n 2, 1) := by decide +kernel
theorem dX3_printTo_65 : decode cX3_printTo 65 = .ok (.aload_n 0, 1) := by decide +kernel
theorem dX3_printTo_66 : decode cX3_printTo 66 = .ok (.getfield 38, 3) := by decide +kernel
theorem dX3_printTo_69 : decode cX3_printTo 69 = .ok (.if_icmp .ge 69, 3) := by decide +kernel
theorem dX3_printTo_72 : decode cX3_printTo 72 = .ok (.aload_n 1, 1) := by decide +kernel
theorem dX3_printTo_73 : decode cX3_printTo 73 = .ok (.iload_n 2, 1) := by decide +kernel
theorem dX3_printTo_74 : decode cX3_printTo 74 = .ok (.ifCond .ne 8, 3) := by decide +kernel
theorem dX3_printTo_77 : decode cX3_printTo 77 = .ok (.bipush 61, 2) := by decide +kernel
theorem dX3_printTo_79 : decode cX3_printTo 79 = .ok (.goto 5, 3) := by decide +kernel
theorem dX3_printTo_82 : decode cX3_printTo 82 = .ok (.bipush 44, 2) := by decide +kernel
theorem dX3_printTo_84 : decode cX3_printTo 84 = .ok (.invokevirtual 69, 3) := by decide +kernel
theorem dX3_printTo_87 : decode cX3_printTo 87 = .ok (.aload_n 1, 1) := by decide +kernel
theorem dX3_printTo_88 : decode cX3_printTo 88 = .ok (.aload_n 0, 1) := by decide +kernel
theorem dX3_printTo_89 : decode cX3_printTo 89 = .ok (.getfield 20, 3) := by decide +kernel
theorem dX3_printTo_92 : decode cX3_printTo 92 = .ok (.iload_n 2, 1) := by decide +kernel
theorem dX3_printTo_93 : decode cX3_printTo 93 = .ok (.aaload, 1) := by decide +kernel
theorem dX3_printTo_94 : decode cX3_printTo 94 = .ok (.getfield 63, 3) := by decide +kernel
theorem dX3_printTo_97 : decode cX3_printTo 97 = .ok (.invokevirtual 73, 3) := by decide +kernel
theorem dX3_printTo_100 : decode cX3_printTo 100 = .ok (.aload_n 0, 1) := by decide +kernel
theorem dX3_printTo_101 : decode cX3_printTo 101 = .ok (.getfield 20, 3) := by decide +kernel
theorem dX3_printTo_104 : decode cX3_printTo 104 = .ok (.iload_n 2, 1) := by decide +kernel
theorem dX3_printTo_105 : decode cX3_printTo 105 = .ok (.aaload, 1) := by decide +kernel
theorem dX3_printTo_106 : decode cX3_printTo 106 = .ok (.getfield 76, 3) := by decide +kernel
theorem dX3_printTo_109 : decode cX3_printTo 109 = .ok (.iconst 1, 1) := by decide +kernel
theorem dX3_printTo_110 : decode cX3_printTo 110 = .ok (.if_icmp .eq 22, 3) := by decide +kernel
theorem dX3_printTo_113 : decode cX3_printTo 113 = .ok (.aload_n 1, 1) := by decide +kernel
theorem dX3_printTo_114 : decode cX3_printTo 114 = .ok (.bipush 58, 2) := by decide +kernel
theorem dX3_printTo_116 : decode cX3_printTo 116 = .ok (.invokevirtual 69, 3) := by decide +kernel
theorem dX3_printTo_119 : decode cX3_printTo 119 = .ok (.aload_n 1, 1) := by decide +kernel
theorem dX3_printTo_120 : decode cX3_printTo 120 = .ok (.aload_n 0, 1) := by decide +kernel
theorem dX3_printTo_121 : decode cX3_printTo 121 = .ok (.getfield 20, 3) := by decide +kernel
theorem dX3_printTo_124 : decode cX3_printTo 124 = .ok (.iload_n 2, 1) := by decide +kernel
theorem dX3_printTo_125 : decode cX3_printTo 125 = .ok (.aaload, 1) := by decide +kernel
theorem dX3_printTo_126 : decode cX3_printTo 126 = .ok (.getfield 76, 3) := by decide +kernel
theorem dX3_printTo_129 : decode cX3_printTo 129 = .ok (.invokevirtual 73, 3) := by decide +kernel
theorem dX3_printTo_132 : decode cX3_printTo 132 = .ok (.iinc 2 1, 3) := by decide +kernel
theorem dX3_printTo_135 : decode cX3_printTo 135 = .ok (.goto (-71), 3) := by decide +kernel
theorem dX3_printTo_138 : decode cX3_printTo 138 = .ok (.aload_n 0, 1) := by decide +kernel
theorem dX3_printTo_139 : decode cX3_printTo 139 = .ok (.getfield 44, 3) := by decide +kernel
theorem dX3_printTo_142 : decode cX3_printTo 142 = .ok (.iconst (-1), 1) := by decide +kernel
theorem dX3_printTo_143 : decode cX3_printTo 143 = .ok (.if_icmp .eq 17, 3) := by decide +kernel
theorem dX3_printTo_146 : decode cX3_printTo 146 = .ok (.aload_n 1, 1) := by decide +kernel
theorem dX3_printTo_147 : decode cX3_printTo 147 = .ok (.bipush 126, 2) := by decide +kernel
theorem dX3_printTo_149 : decode cX3_printTo 149 = .ok (.invokevirtual 69, 3) := by decide +kernel
theorem dX3_printTo_152 : decode cX3_printTo 152 = .ok (.aload_n 1, 1) := by decide +kernel
theorem dX3_printTo_153 : decode cX3_printTo 153 = .ok (.aload_n 0, 1) := by decide +kernel
theorem dX3_printTo_154 : decode cX3_printTo 154 = .ok (.getfield 44, 3) := by decide +kernel
theorem dX3_printTo_157 : decode cX3_printTo 157 = .ok (.invokevirtual 73, 3) := by decide +kernel
theorem dX3_printTo_160 : decode cX3_printTo 160 = .ok (.aload_n 0, 1) := by decide +kernel
theorem dX3_printTo_161 : decode cX3_printTo 161 = .ok (.getfield 41, 3) := by decide +kernel
theorem dX3_printTo_164 : decode cX3_printTo 164 = .ok (.iconst 1, 1) := by decide +kernel
theorem dX3_printTo_165 : decode cX3_printTo 165 = .ok (.if_icmp .eq 17, 3) := by decide +kernel
theorem dX3_printTo_168 : decode cX3_printTo 168 = .ok (.aload_n 1, 1) := by decide +kernel
theorem dX3_printTo_169 : decode cX3_printTo 169 = .ok (.bipush 42, 2) := by decide +kernel
theorem dX3_printTo_171 : decode cX3_printTo 171 = .ok (.invokevirtual 69, 3) := by decide +kernel
theorem dX3_printTo_174 : decode cX3_printTo 174 = .ok (.aload_n 1, 1) := by decide +kernel
theorem dX3_printTo_175 : decode cX3_printTo 175 = .ok (.aload_n 0, 1) := by decide +kernel
theorem dX3_printTo_176 : decode cX3_printTo 176 = .ok (.getfield 41, 3) := by decide +kernel
theorem dX3_printTo_179 : decode cX3_printTo 179 = .ok (.invokevirtual 73, 3) := by decide +kernel
theorem dX3_printTo_182 : decode cX3_printTo 182 = .ok (.return_, 1) := by decide +kernel
theorem dX4_init_0 : decode cX4_init 0 = .ok (.aload_n 0, 1) := by decide +kernel
theorem dX4_init_1 : decode cX4_init 1 = .ok (.invokespecial 3, 3) := by decide +kernel
theorem dX4_init_4 : decode cX4_init 4 = .ok (.aload_n 0, 1) := by decide +kernel
theorem dX4_init_5 : decode cX4_init 5 = .ok (.new 9, 3) := by decide +kernel
theorem dX4_init_8 : decode cX4_init 8 = .ok (.dup, 1) := by decide +kernel
theorem dX4_init_9 : decode cX4_init 9 = .ok (.invokespecial 11, 3) := by decide +kernel
theorem dX4_init_12 : decode cX4_init 12 = .ok (.putfield 12, 3) := by decide +kernel
theorem dX4_init_15 : decode cX4_init 15 = .ok (.aload_n 0, 1) := by decide +kernel
theorem dX4_init_16 : decode cX4_init 16 = .ok (.aload_n 1, 1) := by decide +kernel
theorem dX4_init_17 : decode cX4_init 17 = .ok (.putfield 18, 3) := by decide +kernel
theorem dX4_init_20 : decode cX4_init 20 = .ok (.return_, 1) := by decide +kernel
theorem dX4_read_0 : decode cX4_read 0 = .ok (.aload_n 0, 1) := by decide +kernel
theorem dX4_read_1 : decode cX4_read 1 = .ok (.iconst 0, 1) := by decide +kernel
theorem dX4_read_2 : decode cX4_read 2 = .ok (.putfield 22, 3) := by decide +kernel
theorem dX4_read_5 : decode cX4_read 5 = .ok (.aload_n 0, 1) := by decide +kernel
theorem dX4_read_6 : decode cX4_read 6 = .ok (.getfield 12, 3) := by decide +kernel
theorem dX4_read_9 : decode cX4_read 9 = .ok (.invokevirtual 26, 3) := by decide +kernel
theorem dX4_read_12 : decode cX4_read 12 = .ok (.aload_n 0, 1) := by decide +kernel
theorem dX4_read_13 : decode cX4_read 13 = .ok (.invokevirtual 29, 3) := by decide +kernel
theorem dX4_read_16 : decode cX4_read 16 = .ok (.ifCond .eq 58, 3) := by decide +kernel
theorem dX4_read_19 : decode cX4_read 19 = .ok (.aload_n 0, 1) := by decide +kernel
theorem dX4_read_20 : decode cX4_read 20 = .ok (.invokevirtual 33, 3) := by decide +kernel
theorem dX4_read_23 : decode cX4_read 23 = .ok (.ifCond .eq 51, 3) := by decide +kernel
theorem dX4_read_26 : decode cX4_read 26 = .ok (.aload_n 0, 1) := by decide +kernel
theorem dX4_read_27 : decode cX4_read 27 = .ok (.bipush 61, 2) := by decide +kernel
theorem dX4_read_29 : decode cX4_read 29 = .ok (.invokevirtual 36, 3) := by decide +kernel
theorem dX4_read_32 : decode cX4_read 32 = .ok (.ifCond .eq 42, 3) := by decide +kernel
theorem dX4_read_35 : decode cX4_read 35 = .ok (.aload_n 0, 1) := by decide +kernel
theorem dX4_read_36 : decode cX4_read 36 = .ok (.invokevirtual 40, 3) := by decide +kernel
theorem dX4_read_39 : decode cX4_read 39 = .ok (.ifCond .eq 35, 3) := by decide +kernel
theorem dX4_read_42 : decode cX4_read 42 = .ok (.aload_n 0, 1) := by decide +kernel
theorem dX4_read_43 : decode cX4_read 43 = .ok (.invokevirtual 43, 3) := by decide +kernel
theorem dX4_read_46 : decode cX4_read 46 = .ok (.ifCond .eq 28, 3) := by decide +kernel
theorem dX4_read_49 : decode cX4_read 49 = .ok (.aload_n 0, 1) := by decide +kernel
theorem dX4_read_50 : decode cX4_read 50 = .ok (.invokevirtual 46, 3) := by decide +kernel
theorem dX4_read_53 : decode cX4_read 53 = .ok (.ifCond .eq 21, 3) := by decide +kernel
theorem dX4_read_56 : decode cX4_read 56 = .ok (.aload_n 0, 1) := by decide +kernel
theorem dX4_read_57 : decode cX4_read 57 = .ok (.getfield 22, 3) := by decide +kernel
theorem dX4_read_60 : decode cX4_read 60 = .ok (.aload_n 0, 1) := by decide +kernel
theorem dX4_read_61 : decode cX4_read 61 = .ok (.getfield 18, 3) := by decide +kernel
theorem dX4_read_64 : decode cX4_read 64 = .ok (.getfield 49, 3) := by decide +kernel
theorem dX4_read_67 : decode cX4_read 67 = .ok (.if_icmp .ne 7, 3) := by decide +kernel
theorem dX4_read_70 : decode cX4_read 70 = .ok (.iconst 1, 1) := by decide +kernel
theorem dX4_read_71 : decode cX4_read 71 = .ok (.goto 4, 3) := by decide +kernel
theorem dX4_read_74 : decode cX4_read 74 = .ok (.iconst 0, 1) := by decide +kernel
theorem dX4_read_75 : decode cX4_read 75 = .ok (.istore_n 1, 1) := by decide +kernel
theorem dX4_read_76 : decode cX4_read 76 = .ok (.iload_n 1, 1) := by decide +kernel
theorem dX4_read_77 : decode cX4_read 77 = .ok (.ifCond .eq 7, 3) := by decide +kernel
theorem dX4_read_80 : decode cX4_read 80 = .ok (.iconst (-1), 1) := by decide +kernel
theorem dX4_read_81 : decode cX4_read 81 = .ok (.goto 7, 3) := by decide +kernel
theorem dX4_read_84 : decode cX4_read 84 = .ok (.aload_n 0, 1) := by decide +kernel
theorem dX4_read_85 : decode cX4_read 85 = .ok (.getfield 22, 3) := by decide +kernel
theorem dX4_read_88 : decode cX4_read 88 = .ok (.ireturn, 1) := by decide +kernel
theorem dX4_readPrefix_0 : decode cX4_readPrefix 0 = .ok (.aload_n 0, 1) := by decide +kernel
theorem dX4_readPrefix_1 : decode cX4_readPrefix 1 = .ok (.getfield 18, 3) := by decide +kernel
theorem dX4_readPrefix_4 : decode cX4_readPrefix 4 = .ok (.iconst 0, 1) := by decide +kernel
theorem dX4_readPrefix_5 : decode cX4_readPrefix 5 = .ok (.invokevirtual 54, 3) := by decide +kernel
theorem dX4_readPrefix_8 : decode cX4_readPrefix 8 = .ok (.bipush 47, 2) := by decide +kernel
theorem dX4_readPrefix_10 : decode cX4_readPrefix 10 = .ok (.if_icmp .eq 5, 3) := by decide +kernel
theorem dX4_readPrefix_13 : decode cX4_readPrefix 13 = .ok (.iconst 0, 1) := by decide +kernel
theorem dX4_readPrefix_14 : decode cX4_readPrefix 14 = .ok (.ireturn, 1) := by decide +kernel
theorem dX4_readPrefix_15 : decode cX4_readPrefix 15 = .ok (.aload_n 0, 1) := by decide +kernel
theorem dX4_readPrefix_16 : decode cX4_readPrefix 16 = .ok (.getfield 22, 3) := by decide +kernel
theorem dX4_readPrefix_19 : decode cX4_readPrefix 19 = .ok (.aload_n 0, 1) := by decide +kernel
theorem dX4_readPrefix_20 : decode cX4_readPrefix 20 = .ok (.getfield 18, 3) := by decide +kernel
theorem dX4_readPrefix_23 : decode cX4_readPrefix 23 = .ok (.getfield 49, 3) := by decide +kernel
theorem dX4_readPrefix_26 : decode cX4_readPrefix 26 = .ok (.if_icmp .ge 54, 3) := by decide +kernel
theorem dX4_readPrefix_29 : decode cX4_readPrefix 29 = .ok (.aload_n 0, 1) := by decide +kernel
theorem dX4_readPrefix_30 : decode cX4_readPrefix 30 = .ok (.getfield 18, 3) := by decide +kernel
theorem dX4_readPrefix_33 : decode cX4_readPrefix 33 = .ok (.aload_n 0, 1) := by decide +kernel
theorem dX4_readPrefix_34 : decode cX4_readPrefix 34 = .ok (.getfield 22, 3) := by decide +kernel
theorem dX4_readPrefix_37 : decode cX4_readPrefix 37 = .ok (.invokevirtual 54, 3) := by decide +kernel
theorem dX4_readPrefix_40 : decode cX4_readPrefix 40 = .ok (.invokestatic 58, 3) := by decide +kernel
theorem dX4_readPrefix_43 : decode cX4_readPrefix 43 = .ok (.ifCond .eq 37, 3) := by decide +kernel
theorem dX4_readPrefix_46 : decode cX4_readPrefix 46 = .ok (.aload_n 0, 1) := by decide +kernel
theorem dX4_readPrefix_47 : decode cX4_readPrefix 47 = .ok (.getfield 12, 3) := by decide +kernel
theorem dX4_readPrefix_50 : decode cX4_readPrefix 50 = .ok (.getfield 62, 3) := by decide +kernel
theorem dX4_readPrefix_53 : decode cX4_readPrefix 53 = .ok (.aload_n 0, 1) := by decide +kernel
theorem dX4_readPrefix_54 : decode cX4_readPrefix 54 = .ok (.getfield 18, 3) := by decide +kernel
theorem dX4_readPrefix_57 : decode cX4_readPrefix 57 = .ok (.aload_n 0, 1) := by decide +kernel
theorem dX4_readPrefix_58 : decode cX4_readPrefix 58 = .ok (.getfield 22, 3) := by decide +kernel
theorem dX4_readPrefix_61 : decode cX4_readPrefix 61 = .ok (.invokevirtual 54, 3) := by decide +kernel
theorem dX4_readPrefix_64 : decode cX4_readPrefix 64 = .ok (.invokevirtual 65, 3) := by decide +kernel
theorem dX4_readPrefix_67 : decode cX4_readPrefix 67 = .ok (.aload_n 0, 1) := by decide +kernel
theorem dX4_readPrefix_68 : decode cX4_readPrefix 68 = .ok (.dup, 1) := by decide +kernel
theorem dX4_readPrefix_69 : decode cX4_readPrefix 69 = .ok (.getfield 22, 3) := by decide +kernel
theorem dX4_readPrefix_72 : decode cX4_readPrefix 72 = .ok (.iconst 1, 1) := by decide +kernel
theorem dX4_readPrefix_73 : decode cX4_readPrefix 73 = .ok (.iadd, 1) := by decide +kernel
theorem dX4_readPrefix_74 : decode cX4_readPrefix 74 = .ok (.putfield 22, 3) := by decide +kernel
theorem dX4_readPrefix_77 : decode cX4_readPrefix 77 = .ok (.goto (-62), 3) := by decide +kernel
theorem dX4_readPrefix_80 : decode cX4_readPrefix 80 = .ok (.iconst 1, 1) := by decide +kernel
theorem dX4_readPrefix_81 : decode cX4_readPrefix 81 = .ok (.ireturn, 1) := by decide +kernel
theorem dX4_readRange_0 : decode cX4_readRange 0 = .ok (.aload_n 0, 1) := by decide +kernel
theorem dX4_readRange_1 : decode cX4_readRange 1 = .ok (.bipush 91, 2) := by decide +kernel
theorem dX4_readRange_3 : decode cX4_readRange 3 = .ok (.invokevirtual 36, 3) := by decide +kernel
theorem dX4_readRange_6 : decode cX4_readRange 6 = .ok (.ifCond .ne 5, 3) := by decide +kernel
theorem dX4_readRange_9 : decode cX4_readRange 9 = .ok (.iconst 1, 1) := by decide +kernel
theorem dX4_readRange_10 : decode cX4_readRange 10 = .ok (.ireturn, 1) := by decide +kernel
theorem dX4_readRange_11 : decode cX4_readRange 11 = .ok (.aload_n 0, 1) := by decide +kernel
theorem dX4_readRange_12 : decode cX4_readRange 12 = .ok (.iconst 0, 1) := by decide +kernel
theorem dX4_readRange_13 : decode cX4_readRange 13 = .ok (.bipush 9, 2) := by decide +kernel
theorem dX4_readRange_15 : decode cX4_readRange 15 = .ok (.invokevirtual 69, 3) := by decide +kernel
theorem dX4_readRange_18 : decode cX4_readRange 18 = .ok (.istore_n 1, 1) := by decide +kernel
theorem dX4_readRange_19 : decode cX4_readRange 19 = .ok (.iload_n 1, 1) := by decide +kernel
theorem dX4_readRange_20 : decode cX4_readRange 20 = .ok (.iconst (-1), 1) := by decide +kernel
theorem dX4_readRange_21 : decode cX4_readRange 21 = .ok (.if_icmp .eq 12, 3) := by decide +kernel
theorem dX4_readRange_24 : decode cX4_readRange 24 = .ok (.aload_n 0, 1) := by decide +kernel
theorem dX4_readRange_25 : decode cX4_readRange 25 = .ok (.bipush 45, 2) := by decide +kernel
theorem dX4_readRange_27 : decode cX4_readRange 27 = .ok (.invokevirtual 36, 3) := by decide +kernel
theorem dX4_readRange_30 : decode cX4_readRange 30 = .ok (.ifCond .ne 5, 3) := by decide +kernel
theorem dX4_readRange_33 : decode cX4_readRange 33 = .ok (.iconst 0, 1) := by decide +kernel
theorem dX4_readRange_34 : decode cX4_readRange 34 = .ok (.ireturn, 1) := by decide +kernel
theorem dX4_readRange_35 : decode cX4_readRange 35 = .ok (.aload_n 0, 1) := by decide +kernel
theorem dX4_readRange_36 : decode cX4_readRange 36 = .ok (.iload_n 1, 1) := by decide +kernel
theorem dX4_readRange_37 : decode cX4_readRange 37 = .ok (.bipush 9, 2) := by decide +kernel
theorem dX4_readRange_39 : decode cX4_readRange 39 = .ok (.invokevirtual 69, 3) := by decide +kernel
theorem dX4_readRange_42 : decode cX4_readRange 42 = .ok (.istore_n 2, 1) := by decide +kernel
theorem dX4_readRange_43 : decode cX4_readRange 43 = .ok (.aload_n 0, 1) := by decide +kernel
theorem dX4_readRange_44 : decode cX4_readRange 44 = .ok (.getfield 12, 3) := by decide +kernel
theorem dX4_readRange_47 : decode cX4_readRange 47 = .ok (.iload_n 1, 1) := by decide +kernel
theorem dX4_readRange_48 : decode cX4_readRange 48 = .ok (.putfield 73, 3) := by decide +kernel
theorem dX4_readRange_51 : decode cX4_readRange 51 = .ok (.aload_n 0, 1) := by decide +kernel
theorem dX4_readRange_52 : decode cX4_readRange 52 = .ok (.getfield 12, 3) := by decide +kernel
theorem dX4_readRange_55 : decode cX4_readRange 55 = .ok (.iload_n 2, 1) := by decide +kernel
theorem dX4_readRange_56 : decode cX4_readRange 56 = .ok (.putfield 76, 3) := by decide +kernel
theorem dX4_readRange_59 : decode cX4_readRange 59 = .ok (.iload_n 2, 1) := by decide +kernel
theorem dX4_readRange_60 : decode cX4_readRange 60 = .ok (.iconst (-1), 1) := by decide +kernel
theorem dX4_readRange_61 : decode cX4_readRange 61 = .ok (.if_icmp .eq 16, 3) := by decide +kernel
theorem dX4_readRange_64 : decode cX4_readRange 64 = .ok (.aload_n 0, 1) := by decide +kernel
theorem dX4_readRange_65 : decode cX4_readRange 65 = .ok (.bipush 93, 2) := by decide +kernel
theorem dX4_readRange_67 : decode cX4_readRange 67 = .ok (.invokevirtual 36, 3) := by decide +kernel
theorem dX4_readRange_70 : decode cX4_readRange 70 = .ok (.ifCond .eq 7, 3) := by decide +kernel
theorem dX4_readRange_73 : decode cX4_readRange 73 = .ok (.iconst 1, 1) := by decide +kernel
theorem dX4_readRange_74 : decode cX4_readRange 74 = .ok (.goto 4, 3) := by decide +kernel
theorem dX4_readRange_77 : decode cX4_readRange 77 = .ok (.iconst 0, 1) := by decide +kernel
theorem dX4_readRange_78 : decode cX4_readRange 78 = .ok (.ireturn, 1) := by decide +kernel
theorem dX4_readTargets_0 : decode cX4_readTargets 0 = .ok (.iconst 0, 1) := by decide +kernel
theorem dX4_readTargets_1 : decode cX4_readTargets 1 = .ok (.istore_n 1, 1) := by decide +kernel
theorem dX4_readTargets_2 : decode cX4_readTargets 2 = .ok (.iload_n 1, 1) := by decide +kernel
theorem dX4_readTargets_3 : decode cX4_readTargets 3 = .ok (.iconst 3, 1) := by decide +kernel
theorem dX4_readTargets_4 : decode cX4_readTargets 4 = .ok (.if_icmp .ge 33, 3) := by decide +kernel
theorem dX4_readTargets_7 : decode cX4_readTargets 7 = .ok (.iload_n 1, 1) := by decide +kernel
theorem dX4_readTargets_8 : decode cX4_readTargets 8 = .ok (.ifCond .le 14, 3) := by decide +kernel
theorem dX4_readTargets_11 : decode cX4_readTargets 11 = .ok (.aload_n 0, 1) := by decide +kernel
theorem dX4_readTargets_12 : decode cX4_readTargets 12 = .ok (.bipush 44, 2) := by decide +kernel
theorem dX4_readTargets_14 : decode cX4_readTargets 14 = .ok (.invokevirtual 36, 3) := by decide +kernel
theorem dX4_readTargets_17 : decode cX4_readTargets 17 = .ok (.ifCond .ne 5, 3) := by decide +kernel
theorem dX4_readTargets_20 : decode cX4_readTargets 20 = .ok (.iconst 1, 1) := by decide +kernel
theorem dX4_readTargets_21 : decode cX4_readTargets 21 = .ok (.ireturn, 1) := by decide +kernel
theorem dX4_readTargets_22 : decode cX4_readTargets 22 = .ok (.aload_n 0, 1) := by decide +kernel
theorem dX4_readTargets_23 : decode cX4_readTargets 23 = .ok (.invokevirtual 79, 3) := by decide +kernel
theorem dX4_readTargets_26 : decode cX4_readTargets 26 = .ok (.ifCond .ne 5, 3) := by decide +kernel
theorem dX4_readTargets_29 : decode cX4_readTargets 29 = .ok (.iconst 0, 1) := by decide +kernel
theorem dX4_readTargets_30 : decode cX4_readTargets 30 = .ok (.ireturn, 1) := by decide +kernel
theorem dX4_readTargets_31 : decode cX4_readTargets 31 = .ok (.iinc 1 1, 3) := by decide +kernel
theorem dX4_readTargets_34 : decode cX4_readTargets 34 = .ok (.goto (-32), 3) := by decide +kernel
theorem dX4_readTargets_37 : decode cX4_readTargets 37 = .ok (.iconst 1, 1) := by decide +kernel
theorem dX4_readTargets_38 : decode cX4_readTargets 38 = .ok (.ireturn, 1) := by decide +kernel
theorem dX4_readTarget_0 : decode cX4_readTarget 0 = .ok (.aload_n 0, 1) := by decide +kernel
theorem dX4_readTarget_1 : decode cX4_readTarget 1 = .ok (.getfield 12, 3) := by decide +kernel
theorem dX4_readTarget_4 : decode cX4_readTarget 4 = .ok (.aload_n 0, 1) := by decide +kernel
theorem dX4_readTarget_5 : decode cX4_readTarget 5 = .ok (.getfield 18, 3) := by decide +kernel
theorem dX4_readTarget_8 : decode cX4_readTarget 8 = .ok (.aload_n 0, 1) := by decide +kernel
theorem dX4_readTarget_9 : decode cX4_readTarget 9 = .ok (.getfield 22, 3) := by decide +kernel
theorem dX4_readTarget_12 : decode cX4_readTarget 12 = .ok (.invokevirtual 54, 3) := by decide +kernel
theorem dX4_readTarget_15 : decode cX4_readTarget 15 = .ok (.bipush 48, 2) := by decide +kernel
theorem dX4_readTarget_17 : decode cX4_readTarget 17 = .ok (.isub, 1) := by decide +kernel
theorem dX4_readTarget_18 : decode cX4_readTarget 18 = .ok (.invokevirtual 82, 3) := by decide +kernel
theorem dX4_readTarget_21 : decode cX4_readTarget 21 = .ok (.ifCond .eq 5, 3) := by decide +kernel
theorem dX4_readTarget_24 : decode cX4_readTarget 24 = .ok (.iconst 0, 1) := by decide +kernel
theorem dX4_readTarget_25 : decode cX4_readTarget 25 = .ok (.ireturn, 1) := by decide +kernel
theorem dX4_readTarget_26 : decode cX4_readTarget 26 = .ok (.aload_n 0, 1) := by decide +kernel
theorem dX4_readTarget_27 : decode cX4_readTarget 27 = .ok (.iconst 0, 1) := by decide +kernel
theorem dX4_readTarget_28 : decode cX4_readTarget 28 = .ok (.iconst 3, 1) := by decide +kernel
theorem dX4_readTarget_29 : decode cX4_readTarget 29 = .ok (.invokevirtual 69, 3) := by decide +kernel
theorem dX4_readTarget_32 : decode cX4_readTarget 32 = .ok (.istore_n 1, 1) := by decide +kernel
theorem dX4_readTarget_33 : decode cX4_readTarget 33 = .ok (.iload_n 1, 1) := by decide +kernel
theorem dX4_readTarget_34 : decode cX4_readTarget 34 = .ok (.iconst (-1), 1) := by decide +kernel
theorem dX4_readTarget_35 : decode cX4_readTarget 35 = .ok (.if_icmp .ne 5, 3) := by decide +kernel
theorem dX4_readTarget_38 : decode cX4_readTarget 38 = .ok (.iconst 0, 1) := by decide +kernel
theorem dX4_readTarget_39 : decode cX4_readTarget 39 = .ok (.ireturn, 1) := by decide +kernel
theorem dX4_readTarget_40 : decode cX4_readTarget 40 = .ok (.aload_n 0, 1) := by decide +kernel
theorem dX4_readTarget_41 : decode cX4_readTarget 41 = .ok (.bipush 58, 2) := by decide +kernel
theorem dX4_readTarget_43 : decode cX4_readTarget 43 = .ok (.invokevirtual 36, 3) := by decide +kernel
theorem dX4_readTarget_46 : decode cX4_readTarget 46 = .ok (.ifCond .eq 13, 3) := by decide +kernel
theorem dX4_readTarget_49 : decode cX4_readTarget 49 = .ok (.aload_n 0, 1) := by decide +kernel
theorem dX4_readTarget_50 : decode cX4_readTarget 50 = .ok (.iconst 1, 1) := by decide +kernel
theorem dX4_readTarget_51 : decode cX4_readTarget 51 = .ok (.bipush 9, 2) := by decide +kernel
theorem dX4_readTarget_53 : decode cX4_readTarget 53 = .ok (.invokevirtual 69, 3) := by decide +kernel
theorem dX4_readTarget_56 : decode cX4_readTarget 56 = .ok (.goto 4, 3) := by decide +kernel
theorem dX4_readTarget_59 : decode cX4_readTarget 59 = .ok (.iconst 1, 1) := by decide +kernel
theorem dX4_readTarget_60 : decode cX4_readTarget 60 = .ok (.istore_n 2, 1) := by decide +kernel
theorem dX4_readTarget_61 : decode cX4_readTarget 61 = .ok (.aload_n 0, 1) := by decide +kernel
theorem dX4_readTarget_62 : decode cX4_readTarget 62 = .ok (.getfield 12, 3) := by decide +kernel
theorem dX4_readTarget_65 : decode cX4_readTarget 65 = .ok (.iload_n 1, 1) := by decide +kernel
theorem dX4_readTarget_66 : decode cX4_readTarget 66 = .ok (.iload_n 2, 1) := by decide +kernel
theorem dX4_readTarget_67 : decode cX4_readTarget 67 = .ok (.invokevirtual 85, 3) := by decide +kernel
theorem dX4_readTarget_70 : decode cX4_readTarget 70 = .ok (.iload_n 2, 1) := by decide +kernel
theorem dX4_readTarget_71 : decode cX4_readTarget 71 = .ok (.iconst (-1), 1) := by decide +kernel
theorem dX4_readTarget_72 : decode cX4_readTarget 72 = .ok (.if_icmp .eq 7, 3) := by decide +kernel
theorem dX4_readTarget_75 : decode cX4_readTarget 75 = .ok (.iconst 1, 1) := by decide +kernel
theorem dX4_readTarget_76 : decode cX4_readTarget 76 = .ok (.goto 4, 3) := by decide +kernel
theorem dX4_readTarget_79 : decode cX4_readTarget 79 = .ok (.iconst 0, 1) := by decide +kernel
theorem dX4_readTarget_80 : decode cX4_readTarget 80 = .ok (.ireturn, 1) := by decide +kernel
theorem dX4_readShadow_0 : decode cX4_readShadow 0 = .ok (.aload_n 0, 1) := by decide +kernel
theorem dX4_readShadow_1 : decode cX4_readShadow 1 = .ok (.bipush 126, 2) := by decide +kernel
theorem dX4_readShadow_3 : decode cX4_readShadow 3 = .ok (.invokevirtual 36, 3) := by decide +kernel
theorem dX4_readShadow_6 : decode cX4_readShadow 6 = .ok (.ifCond .ne 5, 3) := by decide +kernel
theorem dX4_readShadow_9 : decode cX4_readShadow 9 = .ok (.iconst 1, 1) := by decide +kernel
theorem dX4_readShadow_10 : decode cX4_readShadow 10 = .ok (.ireturn, 1) := by decide +kernel
theorem dX4_readShadow_11 : decode cX4_readShadow 11 = .ok (.aload_n 0, 1) := by decide +kernel
theorem dX4_readShadow_12 : decode cX4_readShadow 12 = .ok (.getfield 12, 3) := by decide +kernel
theorem dX4_readShadow_15 : decode cX4_readShadow 15 = .ok (.aload_n 0, 1) := by decide +kernel
theorem dX4_readShadow_16 : decode cX4_readShadow 16 = .ok (.iconst 0, 1) := by decide +kernel
theorem dX4_readShadow_17 : decode cX4_readShadow 17 = .ok (.iconst 3, 1) := by decide +kernel
theorem dX4_readShadow_18 : decode cX4_readShadow 18 = .ok (.invokevirtual 69, 3) := by decide +kernel
theorem dX4_readShadow_21 : decode cX4_readShadow 21 = .ok (.putfield 89, 3) := by decide +kernel
theorem dX4_readShadow_24 : decode cX4_readShadow 24 = .ok (.aload_n 0, 1) := by decide +kernel
theorem dX4_readShadow_25 : decode cX4_readShadow 25 = .ok (.getfield 12, 3) := by decide +kernel
theorem dX4_readShadow_28 : decode cX4_readShadow 28 = .ok (.getfield 89, 3) := by decide +kernel
theorem dX4_readShadow_31 : decode cX4_readShadow 31 = .ok (.iconst (-1), 1) := by decide +kernel
theorem dX4_readShadow_32 : decode cX4_readShadow 32 = .ok (.if_icmp .eq 7, 3) := by decide +kernel
theorem dX4_readShadow_35 : decode cX4_readShadow 35 = .ok (.iconst 1, 1) := by decide +kernel
theorem dX4_readShadow_36 : decode cX4_readShadow 36 = .ok (.goto 4, 3) := by decide +kernel
theorem dX4_readShadow_39 : decode cX4_readShadow 39 = .ok (.iconst 0, 1) := by decide +kernel
theorem dX4_readShadow_40 : decode cX4_readShadow 40 = .ok (.ireturn, 1) := by decide +kernel
theorem dX4_readAttempts_0 : decode cX4_readAttempts 0 = .ok (.aload_n 0, 1) := by decide +kernel
theorem dX4_readAttempts_1 : decode cX4_readAttempts 1 = .ok (.bipush 42, 2) := by decide +kernel
theorem dX4_readAttempts_3 : decode cX4_readAttempts 3 = .ok (.invokevirtual 36, 3) := by decide +kernel
theorem dX4_readAttempts_6 : decode cX4_readAttempts 6 = .ok (.ifCond .ne 5, 3) := by decide +kernel
theorem dX4_readAttempts_9 : decode cX4_readAttempts 9 = .ok (.iconst 1, 1) := by decide +kernel
theorem dX4_readAttempts_10 : decode cX4_readAttempts 10 = .ok (.ireturn, 1) := by decide +kernel
theorem dX4_readAttempts_11 : decode cX4_readAttempts 11 = .ok (.aload_n 0, 1) := by decide +kernel
theorem dX4_readAttempts_12 : decode cX4_readAttempts 12 = .ok (.getfield 12, 3) := by decide +kernel
theorem dX4_readAttempts_15 : decode cX4_readAttempts 15 = .ok (.aload_n 0, 1) := by decide +kernel
theorem dX4_readAttempts_16 : decode cX4_readAttempts 16 = .ok (.iconst 1, 1) := by decide +kernel
theorem dX4_readAttempts_17 : decode cX4_readAttempts 17 = .ok (.iconst 4, 1) := by decide +kernel
theorem dX4_readAttempts_18 : decode cX4_readAttempts 18 = .ok (.invokevirtual 69, 3) := by decide +kernel
theorem dX4_readAttempts_21 : decode cX4_readAttempts 21 = .ok (.putfield 92, 3) := by decide +kernel
theorem dX4_readAttempts_24 : decode cX4_readAttempts 24 = .ok (.aload_n 0, 1) := by decide +kernel
theorem dX4_readAttempts_25 : decode cX4_readAttempts 25 = .ok (.getfield 12, 3) := by decide +kernel
theorem dX4_readAttempts_28 : decode cX4_readAttempts 28 = .ok (.getfield 92, 3) := by decide +kernel
theorem dX4_readAttempts_31 : decode cX4_readAttempts 31 = .ok (.iconst (-1), 1) := by decide +kernel
theorem dX4_readAttempts_32 : decode cX4_readAttempts 32 = .ok (.if_icmp .eq 7, 3) := by decide +kernel
theorem dX4_readAttempts_35 : decode cX4_readAttempts 35 = .ok (.iconst 1, 1) := by decide +kernel
theorem dX4_readAttempts_36 : decode cX4_readAttempts 36 = .ok (.goto 4, 3) := by decide +kernel
theorem dX4_readAttempts_39 : decode cX4_readAttempts 39 = .ok (.iconst 0, 1) := by decide +kernel
theorem dX4_readAttempts_40 : decode cX4_readAttempts 40 = .ok (.ireturn, 1) := by decide +kernel
theorem dX4_readSign_0 : decode cX4_readSign 0 = .ok (.aload_n 0, 1) := by decide +kernel
theorem dX4_readSign_1 : decode cX4_readSign 1 = .ok (.getfield 18, 3) := by decide +kernel
theorem dX4_readSign_4 : decode cX4_readSign 4 = .ok (.aload_n 0, 1) := by decide +kernel
theorem dX4_readSign_5 : decode cX4_readSign 5 = .ok (.getfield 22, 3) := by decide +kernel
theorem dX4_readSign_8 : decode cX4_readSign 8 = .ok (.invokevirtual 54, 3) := by decide +kernel
theorem dX4_readSign_11 : decode cX4_readSign 11 = .ok (.iload_n 1, 1) := by decide +kernel
theorem dX4_readSign_12 : decode cX4_readSign 12 = .ok (.if_icmp .eq 5, 3) := by decide +kernel
theorem dX4_readSign_15 : decode cX4_readSign 15 = .ok (.iconst 0, 1) := by decide +kernel
theorem dX4_readSign_16 : decode cX4_readSign 16 = .ok (.ireturn, 1) := by decide +kernel
theorem dX4_readSign_17 : decode cX4_readSign 17 = .ok (.aload_n 0, 1) := by decide +kernel
theorem dX4_readSign_18 : decode cX4_readSign 18 = .ok (.dup, 1) := by decide +kernel
theorem dX4_readSign_19 : decode cX4_readSign 19 = .ok (.getfield 22, 3) := by decide +kernel
theorem dX4_readSign_22 : decode cX4_readSign 22 = .ok (.iconst 1, 1) := by decide +kernel
theorem dX4_readSign_23 : decode cX4_readSign 23 = .ok (.iadd, 1) := by decide +kernel
theorem dX4_readSign_24 : decode cX4_readSign 24 = .ok (.putfield 22, 3) := by decide +kernel
theorem dX4_readSign_27 : decode cX4_readSign 27 = .ok (.iconst 1, 1) := by decide +kernel
theorem dX4_readSign_28 : decode cX4_readSign 28 = .ok (.ireturn, 1) := by decide +kernel
theorem dX4_readDigit_0 : decode cX4_readDigit 0 = .ok (.aload_n 0, 1) := by decide +kernel
theorem dX4_readDigit_1 : decode cX4_readDigit 1 = .ok (.getfield 18, 3) := by decide +kernel
theorem dX4_readDigit_4 : decode cX4_readDigit 4 = .ok (.aload_n 0, 1) := by decide +kernel
theorem dX4_readDigit_5 : decode cX4_readDigit 5 = .ok (.getfield 22, 3) := by decide +kernel
theorem dX4_readDigit_8 : decode cX4_readDigit 8 = .ok (.invokevirtual 54, 3) := by decide +kernel
theorem dX4_readDigit_11 : decode cX4_readDigit 11 = .ok (.bipush 48, 2) := by decide +kernel
theorem dX4_readDigit_13 : decode cX4_readDigit 13 = .ok (.isub, 1) := by decide +kernel
theorem dX4_readDigit_14 : decode cX4_readDigit 14 = .ok (.istore_n 3, 1) := by decide +kernel
theorem dX4_readDigit_15 : decode cX4_readDigit 15 = .ok (.iload_n 3, 1) := by decide +kernel
theorem dX4_readDigit_16 : decode cX4_readDigit 16 = .ok (.iload_n 1, 1) := by decide +kernel
theorem dX4_readDigit_17 : decode cX4_readDigit 17 = .ok (.iload_n 2, 1) := by decide +kernel
theorem dX4_readDigit_18 : decode cX4_readDigit 18 = .ok (.invokestatic 95, 3) := by decide +kernel
theorem dX4_readDigit_21 : decode cX4_readDigit 21 = .ok (.ifCond .ne 5, 3) := by decide +kernel
theorem dX4_readDigit_24 : decode cX4_readDigit 24 = .ok (.iconst (-1), 1) := by decide +kernel
theorem dX4_readDigit_25 : decode cX4_readDigit 25 = .ok (.ireturn, 1) := by decide +kernel
theorem dX4_readDigit_26 : decode cX4_readDigit 26 = .ok (.aload_n 0, 1) := by decide +kernel
theorem dX4_readDigit_27 : decode cX4_readDigit 27 = .ok (.dup, 1) := by decide +kernel
theorem dX4_readDigit_28 : decode cX4_readDigit 28 = .ok (.getfield 22, 3) := by decide +kernel
theorem dX4_readDigit_31 : decode cX4_readDigit 31 = .ok (.iconst 1, 1) := by decide +kernel
theorem dX4_readDigit_32 : decode cX4_readDigit 32 = .ok (.iadd, 1) := by decide +kernel
theorem dX4_readDigit_33 : decode cX4_readDigit 33 = .ok (.putfield 22, 3) := by decide +kernel
theorem dX4_readDigit_36 : decode cX4_readDigit 36 = .ok (.iload_n 3, 1) := by decide +kernel
theorem dX4_readDigit_37 : decode cX4_readDigit 37 = .ok (.ireturn, 1) := by decide +kernel
theorem dX5_init_0 : decode cX5_init 0 = .ok (.aload_n 0, 1) := by decide +kernel
theorem dX5_init_1 : decode cX5_init 1 = .ok (.invokespecial 3, 3) := by decide +kernel
theorem dX5_init_4 : decode cX5_init 4 = .ok (.aload_n 0, 1) := by decide +kernel
theorem dX5_init_5 : decode cX5_init 5 = .ok (.iconst 0, 1) := by decide +kernel
theorem dX5_init_6 : decode cX5_init 6 = .ok (.putfield 9, 3) := by decide +kernel
theorem dX5_init_9 : decode cX5_init 9 = .ok (.aload_n 0, 1) := by decide +kernel
theorem dX5_init_10 : decode cX5_init 10 = .ok (.iconst 3, 1) := by decide +kernel
theorem dX5_init_11 : decode cX5_init 11 = .ok (.putfield 15, 3) := by decide +kernel
theorem dX5_init_14 : decode cX5_init 14 = .ok (.aload_n 0, 1) := by decide +kernel
theorem dX5_init_15 : decode cX5_init 15 = .ok (.iconst 5, 1) := by decide +kernel
theorem dX5_init_16 : decode cX5_init 16 = .ok (.putfield 18, 3) := by decide +kernel
theorem dX5_init_19 : decode cX5_init 19 = .ok (.aload_n 0, 1) := by decide +kernel
theorem dX5_init_20 : decode cX5_init 20 = .ok (.bipush 50, 2) := by decide +kernel
theorem dX5_init_22 : decode cX5_init 22 = .ok (.putfield 21, 3) := by decide +kernel
theorem dX5_init_25 : decode cX5_init 25 = .ok (.aload_n 0, 1) := by decide +kernel
theorem dX5_init_26 : decode cX5_init 26 = .ok (.bipush 20, 2) := by decide +kernel
theorem dX5_init_28 : decode cX5_init 28 = .ok (.putfield 24, 3) := by decide +kernel
theorem dX5_init_31 : decode cX5_init 31 = .ok (.aload_n 0, 1) := by decide +kernel
theorem dX5_init_32 : decode cX5_init 32 = .ok (.sipush 300, 3) := by decide +kernel
theorem dX5_init_35 : decode cX5_init 35 = .ok (.putfield 27, 3) := by decide +kernel
theorem dX5_init_38 : decode cX5_init 38 = .ok (.aload_n 0, 1) := by decide +kernel
theorem dX5_init_39 : decode cX5_init 39 = .ok (.iconst 3, 1) := by decide +kernel
theorem dX5_init_40 : decode cX5_init 40 = .ok (.newarray .int, 2) := by decide +kernel
theorem dX5_init_42 : decode cX5_init 42 = .ok (.putfield 30, 3) := by decide +kernel
theorem dX5_init_45 : decode cX5_init 45 = .ok (.aload_n 0, 1) := by decide +kernel
theorem dX5_init_46 : decode cX5_init 46 = .ok (.bipush 10, 2) := by decide +kernel
theorem dX5_init_48 : decode cX5_init 48 = .ok (.newarray .int, 2) := by decide +kernel
theorem dX5_init_50 : decode cX5_init 50 = .ok (.putfield 34, 3) := by decide +kernel
theorem dX5_init_53 : decode cX5_init 53 = .ok (.iconst 0, 1) := by decide +kernel
theorem dX5_init_54 : decode cX5_init 54 = .ok (.istore_n 1, 1) := by decide +kernel
theorem dX5_init_55 : decode cX5_init 55 = .ok (.iload_n 1, 1) := by decide +kernel
theorem dX5_init_56 : decode cX5_init 56 = .ok (.bipush 10, 2) := by decide +kernel
theorem dX5_init_58 : decode cX5_init 58 = .ok (.if_icmp .ge 16, 3) := by decide +kernel
theorem dX5_init_61 : decode cX5_init 61 = .ok (.aload_n 0, 1) := by decide +kernel
theorem dX5_init_62 : decode cX5_init 62 = .ok (.getfield 34, 3) := by decide +kernel
theorem dX5_init_65 : decode cX5_init 65 = .ok (.iload_n 1, 1) := by decide +kernel
theorem dX5_init_66 : decode cX5_init 66 = .ok (.iconst (-1), 1) := by decide +kernel
theorem dX5_init_67 : decode cX5_init 67 = .ok (.iastore, 1) := by decide +kernel
theorem dX5_init_68 : decode cX5_init 68 = .ok (.iinc 1 1, 3) := by decide +kernel
theorem dX5_init_71 : decode cX5_init 71 = .ok (.goto (-16), 3) := by decide +kernel
theorem dX5_init_74 : decode cX5_init 74 = .ok (.return_, 1) := by decide +kernel
theorem dX5_copyFrom_0 : decode cX5_copyFrom 0 = .ok (.aload_n 0, 1) := by decide +kernel
theorem dX5_copyFrom_1 : decode cX5_copyFrom 1 = .ok (.aload_n 1, 1) := by decide +kernel
theorem dX5_copyFrom_2 : decode cX5_copyFrom 2 = .ok (.getfield 9, 3) := by decide +kernel
theorem dX5_copyFrom_5 : decode cX5_copyFrom 5 = .ok (.putfield 9, 3) := by decide +kernel
theorem dX5_copyFrom_8 : decode cX5_copyFrom 8 = .ok (.aload_n 0, 1) := by decide +kernel
theorem dX5_copyFrom_9 : decode cX5_copyFrom 9 = .ok (.aload_n 1, 1) := by decide +kernel
theorem dX5_copyFrom_10 : decode cX5_copyFrom 10 = .ok (.getfield 15, 3) := by decide +kernel
theorem dX5_copyFrom_13 : decode cX5_copyFrom 13 = .ok (.putfield 15, 3) := by decide +kernel
theorem dX5_copyFrom_16 : decode cX5_copyFrom 16 = .ok (.aload_n 0, 1) := by decide +kernel
theorem dX5_copyFrom_17 : decode cX5_copyFrom 17 = .ok (.aload_n 1, 1) := by decide +kernel
theorem dX5_copyFrom_18 : decode cX5_copyFrom 18 = .ok (.getfield 18, 3) := by decide +kernel
theorem dX5_copyFrom_21 : decode cX5_copyFrom 21 = .ok (.putfield 18, 3) := by decide +kernel
theorem dX5_copyFrom_24 : decode cX5_copyFrom 24 = .ok (.aload_n 0, 1) := by decide +kernel
theorem dX5_copyFrom_25 : decode cX5_copyFrom 25 = .ok (.aload_n 1, 1) := by decide +kernel
theorem dX5_copyFrom_26 : decode cX5_copyFrom 26 = .ok (.getfield 21, 3) := by decide +kernel
theorem dX5_copyFrom_29 : decode cX5_copyFrom 29 = .ok (.putfield 21, 3) := by decide +kernel
theorem dX5_copyFrom_32 : decode cX5_copyFrom 32 = .ok (.aload_n 0, 1) := by decide +kernel
theorem dX5_copyFrom_33 : decode cX5_copyFrom 33 = .ok (.aload_n 1, 1) := by decide +kernel
theorem dX5_copyFrom_34 : decode cX5_copyFrom 34 = .ok (.getfield 24, 3) := by decide +kernel
theorem dX5_copyFrom_37 : decode cX5_copyFrom 37 = .ok (.putfield 24, 3) := by decide +kernel
theorem dX5_copyFrom_40 : decode cX5_copyFrom 40 = .ok (.aload_n 0, 1) := by decide +kernel
theorem dX5_copyFrom_41 : decode cX5_copyFrom 41 = .ok (.aload_n 1, 1) := by decide +kernel
theorem dX5_copyFrom_42 : decode cX5_copyFrom 42 = .ok (.getfield 27, 3) := by decide +kernel
theorem dX5_copyFrom_45 : decode cX5_copyFrom 45 = .ok (.putfield 27, 3) := by decide +kernel
theorem dX5_copyFrom_48 : decode cX5_copyFrom 48 = .ok (.aload_n 0, 1) := by decide +kernel
theorem dX5_copyFrom_49 : decode cX5_copyFrom 49 = .ok (.aload_n 1, 1) := by decide +kernel
theorem dX5_copyFrom_50 : decode cX5_copyFrom 50 = .ok (.getfield 37, 3) := by decide +kernel
theorem dX5_copyFrom_53 : decode cX5_copyFrom 53 = .ok (.putfield 37, 3) := by decide +kernel
theorem dX5_copyFrom_56 : decode cX5_copyFrom 56 = .ok (.aload_n 0, 1) := by decide +kernel
theorem dX5_copyFrom_57 : decode cX5_copyFrom 57 = .ok (.aload_n 1, 1) := by decide +kernel
theorem dX5_copyFrom_58 : decode cX5_copyFrom 58 = .ok (.getfield 40, 3) := by decide +kernel
theorem dX5_copyFrom_61 : decode cX5_copyFrom 61 = .ok (.putfield 40, 3) := by decide +kernel
theorem dX5_copyFrom_64 : decode cX5_copyFrom 64 = .ok (.iconst 0, 1) := by decide +kernel
theorem dX5_copyFrom_65 : decode cX5_copyFrom 65 = .ok (.istore_n 2, 1) := by decide +kernel
theorem dX5_copyFrom_66 : decode cX5_copyFrom 66 = .ok (.iload_n 2, 1) := by decide +kernel
theorem dX5_copyFrom_67 : decode cX5_copyFrom 67 = .ok (.iconst 3, 1) := by decide +kernel
theorem dX5_copyFrom_68 : decode cX5_copyFrom 68 = .ok (.if_icmp .ge 21, 3) := by decide +kernel
theorem dX5_copyFrom_71 : decode cX5_copyFrom 71 = .ok (.aload_n 0, 1) := by decide +kernel
theorem dX5_copyFrom_72 : decode cX5_copyFrom 72 = .ok (.getfield 30, 3) := by decide +kernel
theorem dX5_copyFrom_75 : decode cX5_copyFrom 75 = .ok (.iload_n 2, 1) := by decide +kernel
theorem dX5_copyFrom_76 : decode cX5_copyFrom 76 = .ok (.aload_n 1, 1) := by decide +kernel
theorem dX5_copyFrom_77 : decode cX5_copyFrom 77 = .ok (.getfield 30, 3) := by decide +kernel
theorem dX5_copyFrom_80 : decode cX5_copyFrom 80 = .ok (.iload_n 2, 1) := by decide +kernel
theorem dX5_copyFrom_81 : decode cX5_copyFrom 81 = .ok (.iaload, 1) := by decide +kernel
theorem dX5_copyFrom_82 : decode cX5_copyFrom 82 = .ok (.iastore, 1) := by decide +kernel
theorem dX5_copyFrom_83 : decode cX5_copyFrom 83 = .ok (.iinc 2 1, 3) := by decide +kernel
theorem dX5_copyFrom_86 : decode cX5_copyFrom 86 = .ok (.goto (-20), 3) := by decide +kernel
theorem dX5_copyFrom_89 : decode cX5_copyFrom 89 = .ok (.iconst 0, 1) := by decide +kernel
theorem dX5_copyFrom_90 : decode cX5_copyFrom 90 = .ok (.istore_n 2, 1) := by decide +kernel
theorem dX5_copyFrom_91 : decode cX5_copyFrom 91 = .ok (.iload_n 2, 1) := by decide +kernel
theorem dX5_copyFrom_92 : decode cX5_copyFrom 92 = .ok (.bipush 10, 2) := by decide +kernel
theorem dX5_copyFrom_94 : decode cX5_copyFrom 94 = .ok (.if_icmp .ge 21, 3) := by decide +kernel
theorem dX5_copyFrom_97 : decode cX5_copyFrom 97 = .ok (.aload_n 0, 1) := by decide +kernel
theorem dX5_copyFrom_98 : decode cX5_copyFrom 98 = .ok (.getfield 34, 3) := by decide +kernel
theorem dX5_copyFrom_101 : decode cX5_copyFrom 101 = .ok (.iload_n 2, 1) := by decide +kernel
theorem dX5_copyFrom_102 : decode cX5_copyFrom 102 = .ok (.aload_n 1, 1) := by decide +kernel
theorem dX5_copyFrom_103 : decode cX5_copyFrom 103 = .ok (.getfield 34, 3) := by decide +kernel
theorem dX5_copyFrom_106 : decode cX5_copyFrom 106 = .ok (.iload_n 2, 1) := by decide +kernel
theorem dX5_copyFrom_107 : decode cX5_copyFrom 107 = .ok (.iaload, 1) := by decide +kernel
theorem dX5_copyFrom_108 : decode cX5_copyFrom 108 = .ok (.iastore, 1) := by decide +kernel
theorem dX5_copyFrom_109 : decode cX5_copyFrom 109 = .ok (.iinc 2 1, 3) := by decide +kernel
theorem dX5_copyFrom_112 : decode cX5_copyFrom 112 = .ok (.goto (-21), 3) := by decide +kernel
theorem dX5_copyFrom_115 : decode cX5_copyFrom 115 = .ok (.return_, 1) := by decide +kernel
theorem dX5_earnTokens_0 : decode cX5_earnTokens 0 = .ok (.aload_n 0, 1) := by decide +kernel
theorem dX5_earnTokens_1 : decode cX5_earnTokens 1 = .ok (.sipush 1000, 3) := by decide +kernel
theorem dX5_earnTokens_4 : decode cX5_earnTokens 4 = .ok (.aload_n 0, 1) := by decide +kernel
theorem dX5_earnTokens_5 : decode cX5_earnTokens 5 = .ok (.getfield 27, 3) := by decide +kernel
theorem dX5_earnTokens_8 : decode cX5_earnTokens 8 = .ok (.aload_n 0, 1) := by decide +kernel
theorem dX5_earnTokens_9 : decode cX5_earnTokens 9 = .ok (.getfield 24, 3) := by decide +kernel
theorem dX5_earnTokens_12 : decode cX5_earnTokens 12 = .ok (.iadd, 1) := by decide +kernel
theorem dX5_earnTokens_13 : decode cX5_earnTokens 13 = .ok (.invokestatic 43, 3) := by decide +kernel
theorem dX5_earnTokens_16 : decode cX5_earnTokens 16 = .ok (.putfield 27, 3) := by decide +kernel
theorem dX5_earnTokens_19 : decode cX5_earnTokens 19 = .ok (.return_, 1) := by decide +kernel
theorem dX5_staysNear_0 : decode cX5_staysNear 0 = .ok (.iload 4, 2) := by decide +kernel
theorem dX5_staysNear_2 : decode cX5_staysNear 2 = .ok (.iload_n 3, 1) := by decide +kernel
theorem dX5_staysNear_3 : decode cX5_staysNear 3 = .ok (.imul, 1) := by decide +kernel
theorem dX5_staysNear_4 : decode cX5_staysNear 4 = .ok (.istore 5, 2) := by decide +kernel
theorem dX5_staysNear_6 : decode cX5_staysNear 6 = .ok (.iload 5, 2) := by decide +kernel
theorem dX5_staysNear_8 : decode cX5_staysNear 8 = .ok (.ifCond .le 12, 3) := by decide +kernel
theorem dX5_staysNear_11 : decode cX5_staysNear 11 = .ok (.bipush 100, 2) := by decide +kernel
theorem dX5_staysNear_13 : decode cX5_staysNear 13 = .ok (.iload_n 2, 1) := by decide +kernel
theorem dX5_staysNear_14 : decode cX5_staysNear 14 = .ok (.imul, 1) := by decide +kernel
theorem dX5_staysNear_15 : decode cX5_staysNear 15 = .ok (.iload 5, 2) := by decide +kernel
theorem dX5_staysNear_17 : decode cX5_staysNear 17 = .ok (.if_icmp .lt 5, 3) := by decide +kernel
theorem dX5_staysNear_20 : decode cX5_staysNear 20 = .ok (.iconst 1, 1) := by decide +kernel
theorem dX5_staysNear_21 : decode cX5_staysNear 21 = .ok (.ireturn, 1) := by decide +kernel
theorem dX5_staysNear_22 : decode cX5_staysNear 22 = .ok (.aload_n 0, 1) := by decide +kernel
theorem dX5_staysNear_23 : decode cX5_staysNear 23 = .ok (.getfield 30, 3) := by decide +kernel
theorem dX5_staysNear_26 : decode cX5_staysNear 26 = .ok (.iload_n 1, 1) := by decide +kernel
theorem dX5_staysNear_27 : decode cX5_staysNear 27 = .ok (.dup2, 1) := by decide +kernel
theorem dX5_staysNear_28 : decode cX5_staysNear 28 = .ok (.iaload, 1) := by decide +kernel
theorem dX5_staysNear_29 : decode cX5_staysNear 29 = .ok (.sipush 10000, 3) := by decide +kernel
theorem dX5_staysNear_32 : decode cX5_staysNear 32 = .ok (.iload_n 2, 1) := by decide +kernel
theorem dX5_staysNear_33 : decode cX5_staysNear 33 = .ok (.imul, 1) := by decide +kernel
theorem dX5_staysNear_34 : decode cX5_staysNear 34 = .ok (.iload 5, 2) := by decide +kernel
theorem dX5_staysNear_36 : decode cX5_staysNear 36 = .ok (.idiv, 1) := by decide +kernel
theorem dX5_staysNear_37 : decode cX5_staysNear 37 = .ok (.iadd, 1) := by decide +kernel
theorem dX5_staysNear_38 : decode cX5_staysNear 38 = .ok (.iastore, 1) := by decide +kernel
theorem dX5_staysNear_39 : decode cX5_staysNear 39 = .ok (.aload_n 0, 1) := by decide +kernel
theorem dX5_staysNear_40 : decode cX5_staysNear 40 = .ok (.getfield 30, 3) := by decide +kernel
theorem dX5_staysNear_43 : decode cX5_staysNear 43 = .ok (.iload_n 1, 1) := by decide +kernel
theorem dX5_staysNear_44 : decode cX5_staysNear 44 = .ok (.iaload, 1) := by decide +kernel
theorem dX5_staysNear_45 : decode cX5_staysNear 45 = .ok (.bipush 100, 2) := by decide +kernel
theorem dX5_staysNear_47 : decode cX5_staysNear 47 = .ok (.if_icmp .ge 5, 3) := by decide +kernel
theorem dX5_staysNear_50 : decode cX5_staysNear 50 = .ok (.iconst 0, 1) := by decide +kernel
theorem dX5_staysNear_51 : decode cX5_staysNear 51 = .ok (.ireturn, 1) := by decide +kernel
theorem dX5_staysNear_52 : decode cX5_staysNear 52 = .ok (.aload_n 0, 1) := by decide +kernel
theorem dX5_staysNear_53 : decode cX5_staysNear 53 = .ok (.getfield 30, 3) := by decide +kernel
theorem dX5_staysNear_56 : decode cX5_staysNear 56 = .ok (.iload_n 1, 1) := by decide +kernel
theorem dX5_staysNear_57 : decode cX5_staysNear 57 = .ok (.dup2, 1) := by decide +kernel
theorem dX5_staysNear_58 : decode cX5_staysNear 58 = .ok (.iaload, 1) := by decide +kernel
theorem dX5_staysNear_59 : decode cX5_staysNear 59 = .ok (.bipush 100, 2) := by decide +kernel
theorem dX5_staysNear_61 : decode cX5_staysNear 61 = .ok (.isub, 1) := by decide +kernel
theorem dX5_staysNear_62 : decode cX5_staysNear 62 = .ok (.iastore, 1) := by decide +kernel
theorem dX5_staysNear_63 : decode cX5_staysNear 63 = .ok (.iconst 1, 1) := by decide +kernel
theorem dX5_staysNear_64 : decode cX5_staysNear 64 = .ok (.ireturn, 1) := by decide +kernel
theorem dX6_init_0 : decode cX6_init 0 = .ok (.aload_n 0, 1) := by decide +kernel
theorem dX6_init_1 : decode cX6_init 1 = .ok (.invokespecial 3, 3) := by decide +kernel
theorem dX6_init_4 : decode cX6_init 4 = .ok (.return_, 1) := by decide +kernel
theorem dX6_begin_0 : decode cX6_begin 0 = .ok (.aload_n 0, 1) := by decide +kernel
theorem dX6_begin_1 : decode cX6_begin 1 = .ok (.iload_n 1, 1) := by decide +kernel
theorem dX6_begin_2 : decode cX6_begin 2 = .ok (.putfield 9, 3) := by decide +kernel
theorem dX6_begin_5 : decode cX6_begin 5 = .ok (.aload_n 0, 1) := by decide +kernel
theorem dX6_begin_6 : decode cX6_begin 6 = .ok (.iload_n 2, 1) := by decide +kernel
theorem dX6_begin_7 : decode cX6_begin 7 = .ok (.putfield 15, 3) := by decide +kernel
theorem dX6_begin_10 : decode cX6_begin 10 = .ok (.aload_n 0, 1) := by decide +kernel
theorem dX6_begin_11 : decode cX6_begin 11 = .ok (.iconst 0, 1) := by decide +kernel
theorem dX6_begin_12 : decode cX6_begin 12 = .ok (.putfield 18, 3) := by decide +kernel
theorem dX6_begin_15 : decode cX6_begin 15 = .ok (.aload_n 0, 1) := by decide +kernel
theorem dX6_begin_16 : decode cX6_begin 16 = .ok (.iconst 0, 1) := by decide +kernel
theorem dX6_begin_17 : decode cX6_begin 17 = .ok (.putfield 21, 3) := by decide +kernel
theorem dX6_begin_20 : decode cX6_begin 20 = .ok (.return_, 1) := by decide +kernel
theorem dX6_copyFrom_0 : decode cX6_copyFrom 0 = .ok (.aload_n 0, 1) := by decide +kernel
theorem dX6_copyFrom_1 : decode cX6_copyFrom 1 = .ok (.aload_n 1, 1) := by decide +kernel
theorem dX6_copyFrom_2 : decode cX6_copyFrom 2 = .ok (.getfield 9, 3) := by decide +kernel
theorem dX6_copyFrom_5 : decode cX6_copyFrom 5 = .ok (.putfield 9, 3) := by decide +kernel
theorem dX6_copyFrom_8 : decode cX6_copyFrom 8 = .ok (.aload_n 0, 1) := by decide +kernel
theorem dX6_copyFrom_9 : decode cX6_copyFrom 9 = .ok (.aload_n 1, 1) := by decide +kernel
theorem dX6_copyFrom_10 : decode cX6_copyFrom 10 = .ok (.getfield 15, 3) := by decide +kernel
theorem dX6_copyFrom_13 : decode cX6_copyFrom 13 = .ok (.putfield 15, 3) := by decide +kernel
theorem dX6_copyFrom_16 : decode cX6_copyFrom 16 = .ok (.aload_n 0, 1) := by decide +kernel
theorem dX6_copyFrom_17 : decode cX6_copyFrom 17 = .ok (.aload_n 1, 1) := by decide +kernel
theorem dX6_copyFrom_18 : decode cX6_copyFrom 18 = .ok (.getfield 18, 3) := by decide +kernel
theorem dX6_copyFrom_21 : decode cX6_copyFrom 21 = .ok (.putfield 18, 3) := by decide +kernel
theorem dX6_copyFrom_24 : decode cX6_copyFrom 24 = .ok (.aload_n 0, 1) := by decide +kernel
theorem dX6_copyFrom_25 : decode cX6_copyFrom 25 = .ok (.aload_n 1, 1) := by decide +kernel
theorem dX6_copyFrom_26 : decode cX6_copyFrom 26 = .ok (.getfield 21, 3) := by decide +kernel
theorem dX6_copyFrom_29 : decode cX6_copyFrom 29 = .ok (.putfield 21, 3) := by decide +kernel
theorem dX6_copyFrom_32 : decode cX6_copyFrom 32 = .ok (.return_, 1) := by decide +kernel
theorem dX6_property_0 : decode cX6_property 0 = .ok (.iload_n 1, 1) := by decide +kernel
theorem dX6_property_1 : decode cX6_property 1 = .ok (.tableswitch 51 0 3 #[31, 36, 41, 46], 31) := by decide +kernel
theorem dX6_property_32 : decode cX6_property 32 = .ok (.aload_n 0, 1) := by decide +kernel
theorem dX6_property_33 : decode cX6_property 33 = .ok (.getfield 9, 3) := by decide +kernel
theorem dX6_property_36 : decode cX6_property 36 = .ok (.ireturn, 1) := by decide +kernel
theorem dX6_property_37 : decode cX6_property 37 = .ok (.aload_n 0, 1) := by decide +kernel
theorem dX6_property_38 : decode cX6_property 38 = .ok (.getfield 15, 3) := by decide +kernel
theorem dX6_property_41 : decode cX6_property 41 = .ok (.ireturn, 1) := by decide +kernel
theorem dX6_property_42 : decode cX6_property 42 = .ok (.aload_n 0, 1) := by decide +kernel
theorem dX6_property_43 : decode cX6_property 43 = .ok (.getfield 18, 3) := by decide +kernel
theorem dX6_property_46 : decode cX6_property 46 = .ok (.ireturn, 1) := by decide +kernel
theorem dX6_property_47 : decode cX6_property 47 = .ok (.aload_n 0, 1) := by decide +kernel
theorem dX6_property_48 : decode cX6_property 48 = .ok (.getfield 21, 3) := by decide +kernel
theorem dX6_property_51 : decode cX6_property 51 = .ok (.ireturn, 1) := by decide +kernel
theorem dX6_property_52 : decode cX6_property 52 = .ok (.bipush (-2), 2) := by decide +kernel
theorem dX6_property_54 : decode cX6_property 54 = .ok (.ireturn, 1) := by decide +kernel
theorem dX7_init_0 : decode cX7_init 0 = .ok (.aload_n 0, 1) := by decide +kernel
theorem dX7_init_1 : decode cX7_init 1 = .ok (.invokespecial 3, 3) := by decide +kernel
theorem dX7_init_4 : decode cX7_init 4 = .ok (.aload_n 0, 1) := by decide +kernel
theorem dX7_init_5 : decode cX7_init 5 = .ok (.bipush 40, 2) := by decide +kernel
theorem dX7_init_7 : decode cX7_init 7 = .ok (.newarray .char, 2) := by decide +kernel
theorem dX7_init_9 : decode cX7_init 9 = .ok (.putfield 9, 3) := by decide +kernel
theorem dX7_init_12 : decode cX7_init 12 = .ok (.return_, 1) := by decide +kernel
theorem dX7_clear_0 : decode cX7_clear 0 = .ok (.aload_n 0, 1) := by decide +kernel
theorem dX7_clear_1 : decode cX7_clear 1 = .ok (.iconst 0, 1) := by decide +kernel
theorem dX7_clear_2 : decode cX7_clear 2 = .ok (.putfield 15, 3) := by decide +kernel
theorem dX7_clear_5 : decode cX7_clear 5 = .ok (.return_, 1) := by decide +kernel
theorem dX7_put_0 : decode cX7_put 0 = .ok (.aload_n 0, 1) := by decide +kernel
theorem dX7_put_1 : decode cX7_put 1 = .ok (.getfield 15, 3) := by decide +kernel
theorem dX7_put_4 : decode cX7_put 4 = .ok (.bipush 40, 2) := by decide +kernel
theorem dX7_put_6 : decode cX7_put 6 = .ok (.if_icmp .ge 24, 3) := by decide +kernel
theorem dX7_put_9 : decode cX7_put 9 = .ok (.aload_n 0, 1) := by decide +kernel
theorem dX7_put_10 : decode cX7_put 10 = .ok (.getfield 9, 3) := by decide +kernel
theorem dX7_put_13 : decode cX7_put 13 = .ok (.aload_n 0, 1) := by decide +kernel
theorem dX7_put_14 : decode cX7_put 14 = .ok (.getfield 15, 3) := by decide +kernel
theorem dX7_put_17 : decode cX7_put 17 = .ok (.iload_n 1, 1) := by decide +kernel
theorem dX7_put_18 : decode cX7_put 18 = .ok (.i2c, 1) := by decide +kernel
theorem dX7_put_19 : decode cX7_put 19 = .ok (.castore, 1) := by decide +kernel
theorem dX7_put_20 : decode cX7_put 20 = .ok (.aload_n 0, 1) := by decide +kernel
theorem dX7_put_21 : decode cX7_put 21 = .ok (.dup, 1) := by decide +kernel
theorem dX7_put_22 : decode cX7_put 22 = .ok (.getfield 15, 3) := by decide +kernel
theorem dX7_put_25 : decode cX7_put 25 = .ok (.iconst 1, 1) := by decide +kernel
theorem dX7_put_26 : decode cX7_put 26 = .ok (.iadd, 1) := by decide +kernel
theorem dX7_put_27 : decode cX7_put 27 = .ok (.putfield 15, 3) := by decide +kernel
theorem dX7_put_30 : decode cX7_put 30 = .ok (.return_, 1) := by decide +kernel
theorem dX7_putDigit_0 : decode cX7_putDigit 0 = .ok (.aload_n 0, 1) := by decide +kernel
theorem dX7_putDigit_1 : decode cX7_putDigit 1 = .ok (.bipush 48, 2) := by decide +kernel
theorem dX7_putDigit_3 : decode cX7_putDigit 3 = .ok (.iload_n 1, 1) := by decide +kernel
theorem dX7_putDigit_4 : decode cX7_putDigit 4 = .ok (.iadd, 1) := by decide +kernel
theorem dX7_putDigit_5 : decode cX7_putDigit 5 = .ok (.invokevirtual 19, 3) := by decide +kernel
theorem dX7_putDigit_8 : decode cX7_putDigit 8 = .ok (.return_, 1) := by decide +kernel
theorem dX7_putAll_0 : decode cX7_putAll 0 = .ok (.iconst 0, 1) := by decide +kernel
theorem dX7_putAll_1 : decode cX7_putAll 1 = .ok (.istore_n 2, 1) := by decide +kernel
theorem dX7_putAll_2 : decode cX7_putAll 2 = .ok (.iload_n 2, 1) := by decide +kernel
theorem dX7_putAll_3 : decode cX7_putAll 3 = .ok (.aload_n 1, 1) := by decide +kernel
theorem dX7_putAll_4 : decode cX7_putAll 4 = .ok (.getfield 15, 3) := by decide +kernel
theorem dX7_putAll_7 : decode cX7_putAll 7 = .ok (.if_icmp .ge 19, 3) := by decide +kernel
theorem dX7_putAll_10 : decode cX7_putAll 10 = .ok (.aload_n 0, 1) := by decide +kernel
theorem dX7_putAll_11 : decode cX7_putAll 11 = .ok (.aload_n 1, 1) := by decide +kernel
theorem dX7_putAll_12 : decode cX7_putAll 12 = .ok (.getfield 9, 3) := by decide +kernel
theorem dX7_putAll_15 : decode cX7_putAll 15 = .ok (.iload_n 2, 1) := by decide +kernel
theorem dX7_putAll_16 : decode cX7_putAll 16 = .ok (.caload, 1) := by decide +kernel
theorem dX7_putAll_17 : decode cX7_putAll 17 = .ok (.invokevirtual 19, 3) := by decide +kernel
theorem dX7_putAll_20 : decode cX7_putAll 20 = .ok (.iinc 2 1, 3) := by decide +kernel
theorem dX7_putAll_23 : decode cX7_putAll 23 = .ok (.goto (-21), 3) := by decide +kernel
theorem dX7_putAll_26 : decode cX7_putAll 26 = .ok (.return_, 1) := by decide +kernel
theorem dX7_signAt_0 : decode cX7_signAt 0 = .ok (.iload_n 1, 1) := by decide +kernel
theorem dX7_signAt_1 : decode cX7_signAt 1 = .ok (.iconst 0, 1) := by decide +kernel
theorem dX7_signAt_2 : decode cX7_signAt 2 = .ok (.aload_n 0, 1) := by decide +kernel
theorem dX7_signAt_3 : decode cX7_signAt 3 = .ok (.getfield 15, 3) := by decide +kernel
theorem dX7_signAt_6 : decode cX7_signAt 6 = .ok (.iconst 1, 1) := by decide +kernel
theorem dX7_signAt_7 : decode cX7_signAt 7 = .ok (.isub, 1) := by decide +kernel
theorem dX7_signAt_8 : decode cX7_signAt 8 = .ok (.invokestatic 23, 3) := by decide +kernel
theorem dX7_signAt_11 : decode cX7_signAt 11 = .ok (.ifCond .eq 12, 3) := by decide +kernel
theorem dX7_signAt_14 : decode cX7_signAt 14 = .ok (.aload_n 0, 1) := by decide +kernel
theorem dX7_signAt_15 : decode cX7_signAt 15 = .ok (.getfield 9, 3) := by decide +kernel
theorem dX7_signAt_18 : decode cX7_signAt 18 = .ok (.iload_n 1, 1) := by decide +kernel
theorem dX7_signAt_19 : decode cX7_signAt 19 = .ok (.caload, 1) := by decide +kernel
theorem dX7_signAt_20 : decode cX7_signAt 20 = .ok (.goto 4, 3) := by decide +kernel
theorem dX7_signAt_23 : decode cX7_signAt 23 = .ok (.iconst (-1), 1) := by decide +kernel
theorem dX7_signAt_24 : decode cX7_signAt 24 = .ok (.ireturn, 1) := by decide +kernel
theorem dX7_isPath_0 : decode cX7_isPath 0 = .ok (.iconst 0, 1) := by decide +kernel
theorem dX7_isPath_1 : decode cX7_isPath 1 = .ok (.istore_n 1, 1) := by decide +kernel
theorem dX7_isPath_2 : decode cX7_isPath 2 = .ok (.iload_n 1, 1) := by decide +kernel
theorem dX7_isPath_3 : decode cX7_isPath 3 = .ok (.aload_n 0, 1) := by decide +kernel
theorem dX7_isPath_4 : decode cX7_isPath 4 = .ok (.getfield 15, 3) := by decide +kernel
theorem dX7_isPath_7 : decode cX7_isPath 7 = .ok (.if_icmp .ge 23, 3) := by decide +kernel
theorem dX7_isPath_10 : decode cX7_isPath 10 = .ok (.aload_n 0, 1) := by decide +kernel
theorem dX7_isPath_11 : decode cX7_isPath 11 = .ok (.getfield 9, 3) := by decide +kernel
theorem dX7_isPath_14 : decode cX7_isPath 14 = .ok (.iload_n 1, 1) := by decide +kernel
theorem dX7_isPath_15 : decode cX7_isPath 15 = .ok (.caload, 1) := by decide +kernel
theorem dX7_isPath_16 : decode cX7_isPath 16 = .ok (.invokestatic 27, 3) := by decide +kernel
theorem dX7_isPath_19 : decode cX7_isPath 19 = .ok (.ifCond .ne 5, 3) := by decide +kernel
theorem dX7_isPath_22 : decode cX7_isPath 22 = .ok (.iconst 0, 1) := by decide +kernel
theorem dX7_isPath_23 : decode cX7_isPath 23 = .ok (.ireturn, 1) := by decide +kernel
theorem dX7_isPath_24 : decode cX7_isPath 24 = .ok (.iinc 1 1, 3) := by decide +kernel
theorem dX7_isPath_27 : decode cX7_isPath 27 = .ok (.goto (-25), 3) := by decide +kernel
theorem dX7_isPath_30 : decode cX7_isPath 30 = .ok (.aload_n 0, 1) := by decide +kernel
theorem dX7_isPath_31 : decode cX7_isPath 31 = .ok (.iconst 0, 1) := by decide +kernel
theorem dX7_isPath_32 : decode cX7_isPath 32 = .ok (.invokevirtual 31, 3) := by decide +kernel
theorem dX7_isPath_35 : decode cX7_isPath 35 = .ok (.bipush 47, 2) := by decide +kernel
theorem dX7_isPath_37 : decode cX7_isPath 37 = .ok (.if_icmp .ne 7, 3) := by decide +kernel
theorem dX7_isPath_40 : decode cX7_isPath 40 = .ok (.iconst 1, 1) := by decide +kernel
theorem dX7_isPath_41 : decode cX7_isPath 41 = .ok (.goto 4, 3) := by decide +kernel
theorem dX7_isPath_44 : decode cX7_isPath 44 = .ok (.iconst 0, 1) := by decide +kernel
theorem dX7_isPath_45 : decode cX7_isPath 45 = .ok (.ireturn, 1) := by decide +kernel
theorem dX7_beginsWith_0 : decode cX7_beginsWith 0 = .ok (.iconst 0, 1) := by decide +kernel
theorem dX7_beginsWith_1 : decode cX7_beginsWith 1 = .ok (.istore_n 2, 1) := by decide +kernel
theorem dX7_beginsWith_2 : decode cX7_beginsWith 2 = .ok (.iload_n 2, 1) := by decide +kernel
theorem dX7_beginsWith_3 : decode cX7_beginsWith 3 = .ok (.aload_n 1, 1) := by decide +kernel
theorem dX7_beginsWith_4 : decode cX7_beginsWith 4 = .ok (.getfield 15, 3) := by decide +kernel
theorem dX7_beginsWith_7 : decode cX7_beginsWith 7 = .ok (.if_icmp .ge 25, 3) := by decide +kernel
theorem dX7_beginsWith_10 : decode cX7_beginsWith 10 = .ok (.aload_n 0, 1) := by decide +kernel
theorem dX7_beginsWith_11 : decode cX7_beginsWith 11 = .ok (.iload_n 2, 1) := by decide +kernel
theorem dX7_beginsWith_12 : decode cX7_beginsWith 12 = .ok (.invokevirtual 31, 3) := by decide +kernel
theorem dX7_beginsWith_15 : decode cX7_beginsWith 15 = .ok (.aload_n 1, 1) := by decide +kernel
theorem dX7_beginsWith_16 : decode cX7_beginsWith 16 = .ok (.getfield 9, 3) := by decide +kernel
theorem dX7_beginsWith_19 : decode cX7_beginsWith 19 = .ok (.iload_n 2, 1) := by decide +kernel
theorem dX7_beginsWith_20 : decode cX7_beginsWith 20 = .ok (.caload, 1) := by decide +kernel
theorem dX7_beginsWith_21 : decode cX7_beginsWith 21 = .ok (.if_icmp .eq 5, 3) := by decide +kernel
theorem dX7_beginsWith_24 : decode cX7_beginsWith 24 = .ok (.iconst 0, 1) := by decide +kernel
theorem dX7_beginsWith_25 : decode cX7_beginsWith 25 = .ok (.ireturn, 1) := by decide +kernel
theorem dX7_beginsWith_26 : decode cX7_beginsWith 26 = .ok (.iinc 2 1, 3) := by decide +kernel
theorem dX7_beginsWith_29 : decode cX7_beginsWith 29 = .ok (.goto (-27), 3) := by decide +kernel
theorem dX7_beginsWith_32 : decode cX7_beginsWith 32 = .ok (.iconst 1, 1) := by decide +kernel
theorem dX7_beginsWith_33 : decode cX7_beginsWith 33 = .ok (.ireturn, 1) := by decide +kernel
theorem dX8_init_0 : decode cX8_init 0 = .ok (.aload_n 0, 1) := by decide +kernel
theorem dX8_init_1 : decode cX8_init 1 = .ok (.invokespecial 3, 3) := by decide +kernel
theorem dX8_init_4 : decode cX8_init 4 = .ok (.aload_n 0, 1) := by decide +kernel
theorem dX8_init_5 : decode cX8_init 5 = .ok (.iconst 4, 1) := by decide +kernel
theorem dX8_init_6 : decode cX8_init 6 = .ok (.iconst 4, 1) := by decide +kernel
theorem dX8_init_7 : decode cX8_init 7 = .ok (.multianewarray 11 2, 4) := by decide +kernel
theorem dX8_init_11 : decode cX8_init 11 = .ok (.putfield 13, 3) := by decide +kernel
theorem dX8_init_14 : decode cX8_init 14 = .ok (.return_, 1) := by decide +kernel
theorem dX8_add_0 : decode cX8_add 0 = .ok (.aload_n 0, 1) := by decide +kernel
theorem dX8_add_1 : decode cX8_add 1 = .ok (.getfield 16, 3) := by decide +kernel
theorem dX8_add_4 : decode cX8_add 4 = .ok (.iconst 4, 1) := by decide +kernel
theorem dX8_add_5 : decode cX8_add 5 = .ok (.if_icmp .ge 86, 3) := by decide +kernel
theorem dX8_add_8 : decode cX8_add 8 = .ok (.aload_n 0, 1) := by decide +kernel
theorem dX8_add_9 : decode cX8_add 9 = .ok (.getfield 13, 3) := by decide +kernel
theorem dX8_add_12 : decode cX8_add 12 = .ok (.aload_n 0, 1) := by decide +kernel
theorem dX8_add_13 : decode cX8_add 13 = .ok (.getfield 16, 3) := by decide +kernel
theorem dX8_add_16 : decode cX8_add 16 = .ok (.aaload, 1) := by decide +kernel
theorem dX8_add_17 : decode cX8_add 17 = .ok (.iconst 0, 1) := by decide +kernel
theorem dX8_add_18 : decode cX8_add 18 = .ok (.iload_n 1, 1) := by decide +kernel
theorem dX8_add_19 : decode cX8_add 19 = .ok (.iastore, 1) := by decide +kernel
theorem dX8_add_20 : decode cX8_add 20 = .ok (.aload_n 0, 1) := by decide +kernel
theorem dX8_add_21 : decode cX8_add 21 = .ok (.getfield 13, 3) := by decide +kernel
theorem dX8_add_24 : decode cX8_add 24 = .ok (.aload_n 0, 1) := by decide +kernel
theorem dX8_add_25 : decode cX8_add 25 = .ok (.getfield 16, 3) := by decide +kernel
theorem dX8_add_28 : decode cX8_add 28 = .ok (.aaload, 1) := by decide +kernel
theorem dX8_add_29 : decode cX8_add 29 = .ok (.iconst 1, 1) := by decide +kernel
theorem dX8_add_30 : decode cX8_add 30 = .ok (.iload_n 2, 1) := by decide +kernel
theorem dX8_add_31 : decode cX8_add 31 = .ok (.ifCond .eq 7, 3) := by decide +kernel
theorem dX8_add_34 : decode cX8_add 34 = .ok (.iconst 1, 1) := by decide +kernel
theorem dX8_add_35 : decode cX8_add 35 = .ok (.goto 4, 3) := by decide +kernel
theorem dX8_add_38 : decode cX8_add 38 = .ok (.iconst 0, 1) := by decide +kernel
theorem dX8_add_39 : decode cX8_add 39 = .ok (.iastore, 1) := by decide +kernel
theorem dX8_add_40 : decode cX8_add 40 = .ok (.aload_n 0, 1) := by decide +kernel
theorem dX8_add_41 : decode cX8_add 41 = .ok (.getfield 13, 3) := by decide +kernel
theorem dX8_add_44 : decode cX8_add 44 = .ok (.aload_n 0, 1) := by decide +kernel
theorem dX8_add_45 : decode cX8_add 45 = .ok (.getfield 16, 3) := by decide +kernel
theorem dX8_add_48 : decode cX8_add 48 = .ok (.aaload, 1) := by decide +kernel
theorem dX8_add_49 : decode cX8_add 49 = .ok (.iconst 2, 1) := by decide +kernel
theorem dX8_add_50 : decode cX8_add 50 = .ok (.iload_n 3, 1) := by decide +kernel
theorem dX8_add_51 : decode cX8_add 51 = .ok (.ifCond .eq 7, 3) := by decide +kernel
theorem dX8_add_54 : decode cX8_add 54 = .ok (.iconst 1, 1) := by decide +kernel
theorem dX8_add_55 : decode cX8_add 55 = .ok (.goto 4, 3) := by decide +kernel
theorem dX8_add_58 : decode cX8_add 58 = .ok (.iconst 0, 1) := by decide +kernel
theorem dX8_add_59 : decode cX8_add 59 = .ok (.iastore, 1) := by decide +kernel
theorem dX8_add_60 : decode cX8_add 60 = .ok (.aload_n 0, 1) := by decide +kernel
theorem dX8_add_61 : decode cX8_add 61 = .ok (.getfield 13, 3) := by decide +kernel
theorem dX8_add_64 : decode cX8_add 64 = .ok (.aload_n 0, 1) := by decide +kernel
theorem dX8_add_65 : decode cX8_add 65 = .ok (.getfield 16, 3) := by decide +kernel
theorem dX8_add_68 : decode cX8_add 68 = .ok (.aaload, 1) := by decide +kernel
theorem dX8_add_69 : decode cX8_add 69 = .ok (.iconst 3, 1) := by decide +kernel
theorem dX8_add_70 : decode cX8_add 70 = .ok (.iload 4, 2) := by decide +kernel
theorem dX8_add_72 : decode cX8_add 72 = .ok (.ifCond .eq 7, 3) := by decide +kernel
theorem dX8_add_75 : decode cX8_add 75 = .ok (.iconst 1, 1) := by decide +kernel
theorem dX8_add_76 : decode cX8_add 76 = .ok (.goto 4, 3) := by decide +kernel
theorem dX8_add_79 : decode cX8_add 79 = .ok (.iconst 0, 1) := by decide +kernel
theorem dX8_add_80 : decode cX8_add 80 = .ok (.iastore, 1) := by decide +kernel
theorem dX8_add_81 : decode cX8_add 81 = .ok (.aload_n 0, 1) := by decide +kernel
theorem dX8_add_82 : decode cX8_add 82 = .ok (.dup, 1) := by decide +kernel
theorem dX8_add_83 : decode cX8_add 83 = .ok (.getfield 16, 3) := by decide +kernel
theorem dX8_add_86 : decode cX8_add 86 = .ok (.iconst 1, 1) := by decide +kernel
theorem dX8_add_87 : decode cX8_add 87 = .ok (.iadd, 1) := by decide +kernel
theorem dX8_add_88 : decode cX8_add 88 = .ok (.putfield 16, 3) := by decide +kernel
theorem dX8_add_91 : decode cX8_add 91 = .ok (.return_, 1) := by decide +kernel
theorem dX9_init_0 : decode cX9_init 0 = .ok (.aload_n 0, 1) := by decide +kernel
theorem dX9_init_1 : decode cX9_init 1 = .ok (.invokespecial 3, 3) := by decide +kernel
theorem dX9_init_4 : decode cX9_init 4 = .ok (.return_, 1) := by decide +kernel
theorem dX9_chooseByWeights_0 : decode cX9_chooseByWeights 0 = .ok (.iconst (-1), 1) := by decide +kernel
theorem dX9_chooseByWeights_1 : decode cX9_chooseByWeights 1 = .ok (.istore_n 2, 1) := by decide +kernel
theorem dX9_chooseByWeights_2 : decode cX9_chooseByWeights 2 = .ok (.iconst 0, 1) := by decide +kernel
theorem dX9_chooseByWeights_3 : decode cX9_chooseByWeights 3 = .ok (.istore_n 3, 1) := by decide +kernel
theorem dX9_chooseByWeights_4 : decode cX9_chooseByWeights 4 = .ok (.iconst 0, 1) := by decide +kernel
theorem dX9_chooseByWeights_5 : decode cX9_chooseByWeights 5 = .ok (.istore 4, 2) := by decide +kernel
theorem dX9_chooseByWeights_7 : decode cX9_chooseByWeights 7 = .ok (.iload 4, 2) := by decide +kernel
theorem dX9_chooseByWeights_9 : decode cX9_chooseByWeights 9 = .ok (.iload_n 1, 1) := by decide +kernel
theorem dX9_chooseByWeights_10 : decode cX9_chooseByWeights 10 = .ok (.if_icmp .ge 75, 3) := by decide +kernel
theorem dX9_chooseByWeights_13 : decode cX9_chooseByWeights 13 = .ok (.iload 4, 2) := by decide +kernel
theorem dX9_chooseByWeights_15 : decode cX9_chooseByWeights 15 = .ok (.aload_n 0, 1) := by decide +kernel
theorem dX9_chooseByWeights_16 : decode cX9_chooseByWeights 16 = .ok (.arraylength, 1) := by decide +kernel
theorem dX9_chooseByWeights_17 : decode cX9_chooseByWeights 17 = .ok (.if_icmp .ge 68, 3) := by decide +kernel
theorem dX9_chooseByWeights_20 : decode cX9_chooseByWeights 20 = .ok (.aload_n 0, 1) := by decide +kernel
theorem dX9_chooseByWeights_21 : decode cX9_chooseByWeights 21 = .ok (.iload 4, 2) := by decide +kernel
theorem dX9_chooseByWeights_23 : decode cX9_chooseByWeights 23 = .ok (.aaload, 1) := by decide +kernel
theorem dX9_chooseByWeights_24 : decode cX9_chooseByWeights 24 = .ok (.astore 5, 2) := by decide +kernel
theorem dX9_chooseByWeights_26 : decode cX9_chooseByWeights 26 = .ok (.aload 5, 2) := by decide +kernel
theorem dX9_chooseByWeights_28 : decode cX9_chooseByWeights 28 = .ok (.getfield 9, 3) := by decide +kernel
theorem dX9_chooseByWeights_31 : decode cX9_chooseByWeights 31 = .ok (.ifCond .eq 48, 3) := by decide +kernel
theorem dX9_chooseByWeights_34 : decode cX9_chooseByWeights 34 = .ok (.aload 5, 2) := by decide +kernel
theorem dX9_chooseByWeights_36 : decode cX9_chooseByWeights 36 = .ok (.dup, 1) := by decide +kernel
theorem dX9_chooseByWeights_37 : decode cX9_chooseByWeights 37 = .ok (.getfield 15, 3) := by decide +kernel
theorem dX9_chooseByWeights_40 : decode cX9_chooseByWeights 40 = .ok (.aload 5, 2) := by decide +kernel
theorem dX9_chooseByWeights_42 : decode cX9_chooseByWeights 42 = .ok (.getfield 19, 3) := by decide +kernel
theorem dX9_chooseByWeights_45 : decode cX9_chooseByWeights 45 = .ok (.iadd, 1) := by decide +kernel
theorem dX9_chooseByWeights_46 : decode cX9_chooseByWeights 46 = .ok (.putfield 15, 3) := by decide +kernel
theorem dX9_chooseByWeights_49 : decode cX9_chooseByWeights 49 = .ok (.iload_n 3, 1) := by decide +kernel
theorem dX9_chooseByWeights_50 : decode cX9_chooseByWeights 50 = .ok (.aload 5, 2) := by decide +kernel
theorem dX9_chooseByWeights_52 : decode cX9_chooseByWeights 52 = .ok (.getfield 19, 3) := by decide +kernel
theorem dX9_chooseByWeights_55 : decode cX9_chooseByWeights 55 = .ok (.iadd, 1) := by decide +kernel
theorem dX9_chooseByWeights_56 : decode cX9_chooseByWeights 56 = .ok (.istore_n 3, 1) := by decide +kernel
theorem dX9_chooseByWeights_57 : decode cX9_chooseByWeights 57 = .ok (.iload_n 2, 1) := by decide +kernel
theorem dX9_chooseByWeights_58 : decode cX9_chooseByWeights 58 = .ok (.iconst (-1), 1) := by decide +kernel
theorem dX9_chooseByWeights_59 : decode cX9_chooseByWeights 59 = .ok (.if_icmp .eq 17, 3) := by decide +kernel
theorem dX9_chooseByWeights_62 : decode cX9_chooseByWeights 62 = .ok (.aload 5, 2) := by decide +kernel
theorem dX9_chooseByWeights_64 : decode cX9_chooseByWeights 64 = .ok (.getfield 15, 3) := by decide +kernel
theorem dX9_chooseByWeights_67 : decode cX9_chooseByWeights 67 = .ok (.aload_n 0, 1) := by decide +kernel
theorem dX9_chooseByWeights_68 : decode cX9_chooseByWeights 68 = .ok (.iload_n 2, 1) := by decide +kernel
theorem dX9_chooseByWeights_69 : decode cX9_chooseByWeights 69 = .ok (.aaload, 1) := by decide +kernel
theorem dX9_chooseByWeights_70 : decode cX9_chooseByWeights 70 = .ok (.getfield 15, 3) := by decide +kernel
theorem dX9_chooseByWeights_73 : decode cX9_chooseByWeights 73 = .ok (.if_icmp .le 6, 3) := by decide +kernel
theorem dX9_chooseByWeights_76 : decode cX9_chooseByWeights 76 = .ok (.iload 4, 2) := by decide +kernel
theorem dX9_chooseByWeights_78 : decode cX9_chooseByWeights 78 = .ok (.istore_n 2, 1) := by decide +kernel
theorem dX9_chooseByWeights_79 : decode cX9_chooseByWeights 79 = .ok (.iinc 4 1, 3) := by decide +kernel
theorem dX9_chooseByWeights_82 : decode cX9_chooseByWeights 82 = .ok (.goto (-75), 3) := by decide +kernel
theorem dX9_chooseByWeights_85 : decode cX9_chooseByWeights 85 = .ok (.iload_n 2, 1) := by decide +kernel
theorem dX9_chooseByWeights_86 : decode cX9_chooseByWeights 86 = .ok (.iconst (-1), 1) := by decide +kernel
theorem dX9_chooseByWeights_87 : decode cX9_chooseByWeights 87 = .ok (.if_icmp .eq 15, 3) := by decide +kernel
theorem dX9_chooseByWeights_90 : decode cX9_chooseByWeights 90 = .ok (.aload_n 0, 1) := by decide +kernel
theorem dX9_chooseByWeights_91 : decode cX9_chooseByWeights 91 = .ok (.iload_n 2, 1) := by decide +kernel
theorem dX9_chooseByWeights_92 : decode cX9_chooseByWeights 92 = .ok (.aaload, 1) := by decide +kernel
theorem dX9_chooseByWeights_93 : decode cX9_chooseByWeights 93 = .ok (.dup, 1) := by decide +kernel
theorem dX9_chooseByWeights_94 : decode cX9_chooseByWeights 94 = .ok (.getfield 15, 3) := by decide +kernel
theorem dX9_chooseByWeights_97 : decode cX9_chooseByWeights 97 = .ok (.iload_n 3, 1) := by decide +kernel
theorem dX9_chooseByWeights_98 : decode cX9_chooseByWeights 98 = .ok (.isub, 1) := by decide +kernel
theorem dX9_chooseByWeights_99 : decode cX9_chooseByWeights 99 = .ok (.putfield 15, 3) := by decide +kernel
theorem dX9_chooseByWeights_102 : decode cX9_chooseByWeights 102 = .ok (.iload_n 2, 1) := by decide +kernel
theorem dX9_chooseByWeights_103 : decode cX9_chooseByWeights 103 = .ok (.ireturn, 1) := by decide +kernel
theorem dX10_init_0 : decode cX10_init 0 = .ok (.aload_n 0, 1) := by decide +kernel
theorem dX10_init_1 : decode cX10_init 1 = .ok (.invokespecial 1, 3) := by decide +kernel
theorem dX10_init_4 : decode cX10_init 4 = .ok (.aload_n 0, 1) := by decide +kernel
theorem dX10_init_5 : decode cX10_init 5 = .ok (.new 7, 3) := by decide +kernel
theorem dX10_init_8 : decode cX10_init 8 = .ok (.dup, 1) := by decide +kernel
theorem dX10_init_9 : decode cX10_init 9 = .ok (.invokespecial 9, 3) := by decide +kernel
theorem dX10_init_12 : decode cX10_init 12 = .ok (.putfield 10, 3) := by decide +kernel
theorem dX10_init_15 : decode cX10_init 15 = .ok (.aload_n 0, 1) := by decide +kernel
theorem dX10_init_16 : decode cX10_init 16 = .ok (.new 7, 3) := by decide +kernel
theorem dX10_init_19 : decode cX10_init 19 = .ok (.dup, 1) := by decide +kernel
theorem dX10_init_20 : decode cX10_init 20 = .ok (.invokespecial 9, 3) := by decide +kernel
theorem dX10_init_23 : decode cX10_init 23 = .ok (.putfield 16, 3) := by decide +kernel
theorem dX10_init_26 : decode cX10_init 26 = .ok (.aload_n 0, 1) := by decide +kernel
theorem dX10_init_27 : decode cX10_init 27 = .ok (.new 7, 3) := by decide +kernel
theorem dX10_init_30 : decode cX10_init 30 = .ok (.dup, 1) := by decide +kernel
theorem dX10_init_31 : decode cX10_init 31 = .ok (.invokespecial 9, 3) := by decide +kernel
theorem dX10_init_34 : decode cX10_init 34 = .ok (.putfield 19, 3) := by decide +kernel
theorem dX10_init_37 : decode cX10_init 37 = .ok (.aload_n 0, 1) := by decide +kernel
theorem dX10_init_38 : decode cX10_init 38 = .ok (.new 7, 3) := by decide +kernel
theorem dX10_init_41 : decode cX10_init 41 = .ok (.dup, 1) := by decide +kernel
theorem dX10_init_42 : decode cX10_init 42 = .ok (.invokespecial 9, 3) := by decide +kernel
theorem dX10_init_45 : decode cX10_init 45 = .ok (.putfield 22, 3) := by decide +kernel
theorem dX10_init_48 : decode cX10_init 48 = .ok (.aload_n 0, 1) := by decide +kernel
theorem dX10_init_49 : decode cX10_init 49 = .ok (.new 25, 3) := by decide +kernel
theorem dX10_init_52 : decode cX10_init 52 = .ok (.dup, 1) := by decide +kernel
theorem dX10_init_53 : decode cX10_init 53 = .ok (.invokespecial 27, 3) := by decide +kernel
theorem dX10_init_56 : decode cX10_init 56 = .ok (.putfield 28, 3) := by decide +kernel
theorem dX10_init_59 : decode cX10_init 59 = .ok (.aload_n 0, 1) := by decide +kernel
theorem dX10_init_60 : decode cX10_init 60 = .ok (.new 32, 3) := by decide +kernel
theorem dX10_init_63 : decode cX10_init 63 = .ok (.dup, 1) := by decide +kernel
theorem dX10_init_64 : decode cX10_init 64 = .ok (.invokespecial 34, 3) := by decide +kernel
theorem dX10_init_67 : decode cX10_init 67 = .ok (.putfield 35, 3) := by decide +kernel
theorem dX10_init_70 : decode cX10_init 70 = .ok (.aload_n 0, 1) := by decide +kernel
theorem dX10_init_71 : decode cX10_init 71 = .ok (.new 32, 3) := by decide +kernel
theorem dX10_init_74 : decode cX10_init 74 = .ok (.dup, 1) := by decide +kernel
theorem dX10_init_75 : decode cX10_init 75 = .ok (.invokespecial 34, 3) := by decide +kernel
theorem dX10_init_78 : decode cX10_init 78 = .ok (.putfield 39, 3) := by decide +kernel
theorem dX10_init_81 : decode cX10_init 81 = .ok (.aload_n 0, 1) := by decide +kernel
theorem dX10_init_82 : decode cX10_init 82 = .ok (.new 42, 3) := by decide +kernel
theorem dX10_init_85 : decode cX10_init 85 = .ok (.dup, 1) := by decide +kernel
theorem dX10_init_86 : decode cX10_init 86 = .ok (.aload_n 0, 1) := by decide +kernel
theorem dX10_init_87 : decode cX10_init 87 = .ok (.getfield 35, 3) := by decide +kernel
theorem dX10_init_90 : decode cX10_init 90 = .ok (.invokespecial 44, 3) := by decide +kernel
theorem dX10_init_93 : decode cX10_init 93 = .ok (.putfield 47, 3) := by decide +kernel
theorem dX10_init_96 : decode cX10_init 96 = .ok (.return_, 1) := by decide +kernel
theorem dX10_addBackend_0 : decode cX10_addBackend 0 = .ok (.iload_n 1, 1) := by decide +kernel
theorem dX10_addBackend_1 : decode cX10_addBackend 1 = .ok (.invokestatic 51, 3) := by decide +kernel
theorem dX10_addBackend_4 : decode cX10_addBackend 4 = .ok (.ifCond .eq 20, 3) := by decide +kernel
theorem dX10_addBackend_7 : decode cX10_addBackend 7 = .ok (.iload_n 2, 1) := by decide +kernel
theorem dX10_addBackend_8 : decode cX10_addBackend 8 = .ok (.invokestatic 55, 3) := by decide +kernel
theorem dX10_addBackend_11 : decode cX10_addBackend 11 = .ok (.ifCond .eq 13, 3) := by decide +kernel
theorem dX10_addBackend_14 : decode cX10_addBackend 14 = .ok (.iload_n 3, 1) := by decide +kernel
theorem dX10_addBackend_15 : decode cX10_addBackend 15 = .ok (.iconst 0, 1) := by decide +kernel
theorem dX10_addBackend_16 : decode cX10_addBackend 16 = .ok (.bipush 9, 2) := by decide +kernel
theorem dX10_addBackend_18 : decode cX10_addBackend 18 = .ok (.invokestatic 58, 3) := by decide +kernel
theorem dX10_addBackend_21 : decode cX10_addBackend 21 = .ok (.ifCond .ne 6, 3) := by decide +kernel
theorem dX10_addBackend_24 : decode cX10_addBackend 24 = .ok (.bipush (-2), 2) := by decide +kernel
theorem dX10_addBackend_26 : decode cX10_addBackend 26 = .ok (.ireturn, 1) := by decide +kernel
theorem dX10_addBackend_27 : decode cX10_addBackend 27 = .ok (.aload_n 0, 1) := by decide +kernel
theorem dX10_addBackend_28 : decode cX10_addBackend 28 = .ok (.getfield 10, 3) := by decide +kernel
theorem dX10_addBackend_31 : decode cX10_addBackend 31 = .ok (.getfield 62, 3) := by decide +kernel
theorem dX10_addBackend_34 : decode cX10_addBackend 34 = .ok (.bipush 12, 2) := by decide +kernel
theorem dX10_addBackend_36 : decode cX10_addBackend 36 = .ok (.if_icmp .lt 6, 3) := by decide +kernel
theorem dX10_addBackend_39 : decode cX10_addBackend 39 = .ok (.bipush (-3), 2) := by decide +kernel
theorem dX10_addBackend_41 : decode cX10_addBackend 41 = .ok (.ireturn, 1) := by decide +kernel
theorem dX10_addBackend_42 : decode cX10_addBackend 42 = .ok (.aload_n 0, 1) := by decide +kernel
theorem dX10_addBackend_43 : decode cX10_addBackend 43 = .ok (.getfield 28, 3) := by decide +kernel
theorem dX10_addBackend_46 : decode cX10_addBackend 46 = .ok (.invokevirtual 66, 3) := by decide +kernel
theorem dX10_addBackend_49 : decode cX10_addBackend 49 = .ok (.aload_n 0, 1) := by decide +kernel
theorem dX10_addBackend_50 : decode cX10_addBackend 50 = .ok (.getfield 10, 3) := by decide +kernel
theorem dX10_addBackend_53 : decode cX10_addBackend 53 = .ok (.iload_n 1, 1) := by decide +kernel
theorem dX10_addBackend_54 : decode cX10_addBackend 54 = .ok (.iload_n 2, 1) := by decide +kernel
theorem dX10_addBackend_55 : decode cX10_addBackend 55 = .ok (.iload_n 3, 1) := by decide +kernel
theorem dX10_addBackend_56 : decode cX10_addBackend 56 = .ok (.invokevirtual 69, 3) := by decide +kernel
theorem dX10_addBackend_59 : decode cX10_addBackend 59 = .ok (.ireturn, 1) := by decide +kernel
theorem dX10_setWeight_0 : decode cX10_setWeight 0 = .ok (.aload_n 0, 1) := by decide +kernel
theorem dX10_setWeight_1 : decode cX10_setWeight 1 = .ok (.getfield 10, 3) := by decide +kernel
theorem dX10_setWeight_4 : decode cX10_setWeight 4 = .ok (.iload_n 1, 1) := by decide +kernel
theorem dX10_setWeight_5 : decode cX10_setWeight 5 = .ok (.invokevirtual 73, 3) := by decide +kernel
theorem dX10_setWeight_8 : decode cX10_setWeight 8 = .ok (.ifCond .ne 5, 3) := by decide +kernel
theorem dX10_setWeight_11 : decode cX10_setWeight 11 = .ok (.iconst (-1), 1) := by decide +kernel
theorem dX10_setWeight_12 : decode cX10_setWeight 12 = .ok (.ireturn, 1) := by decide +kernel
theorem dX10_setWeight_13 : decode cX10_setWeight 13 = .ok (.iload_n 2, 1) := by decide +kernel
theorem dX10_setWeight_14 : decode cX10_setWeight 14 = .ok (.iconst 0, 1) := by decide +kernel
theorem dX10_setWeight_15 : decode cX10_setWeight 15 = .ok (.bipush 9, 2) := by decide +kernel
theorem dX10_setWeight_17 : decode cX10_setWeight 17 = .ok (.invokestatic 58, 3) := by decide +kernel
theorem dX10_setWeight_20 : decode cX10_setWeight 20 = .ok (.ifCond .ne 6, 3) := by decide +kernel
theorem dX10_setWeight_23 : decode cX10_setWeight 23 = .ok (.bipush (-2), 2) := by decide +kernel
theorem dX10_setWeight_25 : decode cX10_setWeight 25 = .ok (.ireturn, 1) := by decide +kernel
theorem dX10_setWeight_26 : decode cX10_setWeight 26 = .ok (.aload_n 0, 1) := by decide +kernel
theorem dX10_setWeight_27 : decode cX10_setWeight 27 = .ok (.getfield 28, 3) := by decide +kernel
theorem dX10_setWeight_30 : decode cX10_setWeight 30 = .ok (.invokevirtual 66, 3) := by decide +kernel
theorem dX10_setWeight_33 : decode cX10_setWeight 33 = .ok (.aload_n 0, 1) := by decide +kernel
theorem dX10_setWeight_34 : decode cX10_setWeight 34 = .ok (.getfield 10, 3) := by decide +kernel
theorem dX10_setWeight_37 : decode cX10_setWeight 37 = .ok (.getfield 76, 3) := by decide +kernel
theorem dX10_setWeight_40 : decode cX10_setWeight 40 = .ok (.iload_n 1, 1) := by decide +kernel
theorem dX10_setWeight_41 : decode cX10_setWeight 41 = .ok (.aaload, 1) := by decide +kernel
theorem dX10_setWeight_42 : decode cX10_setWeight 42 = .ok (.getfield 80, 3) := by decide +kernel
theorem dX10_setWeight_45 : decode cX10_setWeight 45 = .ok (.istore_n 3, 1) := by decide +kernel
theorem dX10_setWeight_46 : decode cX10_setWeight 46 = .ok (.aload_n 0, 1) := by decide +kernel
theorem dX10_setWeight_47 : decode cX10_setWeight 47 = .ok (.getfield 10, 3) := by decide +kernel
theorem dX10_setWeight_50 : decode cX10_setWeight 50 = .ok (.getfield 76, 3) := by decide +kernel
theorem dX10_setWeight_53 : decode cX10_setWeight 53 = .ok (.iload_n 1, 1) := by decide +kernel
theorem dX10_setWeight_54 : decode cX10_setWeight 54 = .ok (.aaload, 1) := by decide +kernel
theorem dX10_setWeight_55 : decode cX10_setWeight 55 = .ok (.iload_n 2, 1) := by decide +kernel
theorem dX10_setWeight_56 : decode cX10_setWeight 56 = .ok (.putfield 80, 3) := by decide +kernel
theorem dX10_setWeight_59 : decode cX10_setWeight 59 = .ok (.iload_n 3, 1) := by decide +kernel
theorem dX10_setWeight_60 : decode cX10_setWeight 60 = .ok (.ireturn, 1) := by decide +kernel
theorem dX10_setPattern_0 : decode cX10_setPattern 0 = .ok (.aload_n 0, 1) := by decide +kernel
theorem dX10_setPattern_1 : decode cX10_setPattern 1 = .ok (.getfield 10, 3) := by decide +kernel
theorem dX10_setPattern_4 : decode cX10_setPattern 4 = .ok (.iload_n 1, 1) := by decide +kernel
theorem dX10_setPattern_5 : decode cX10_setPattern 5 = .ok (.invokevirtual 73, 3) := by decide +kernel
theorem dX10_setPattern_8 : decode cX10_setPattern 8 = .ok (.ifCond .ne 5, 3) := by decide +kernel
theorem dX10_setPattern_11 : decode cX10_setPattern 11 = .ok (.iconst (-1), 1) := by decide +kernel
theorem dX10_setPattern_12 : decode cX10_setPattern 12 = .ok (.ireturn, 1) := by decide +kernel
theorem dX10_setPattern_13 : decode cX10_setPattern 13 = .ok (.iload_n 2, 1) := by decide +kernel
theorem dX10_setPattern_14 : decode cX10_setPattern 14 = .ok (.iconst 0, 1) := by decide +kernel
theorem dX10_setPattern_15 : decode cX10_setPattern 15 = .ok (.sipush 255, 3) := by decide +kernel
theorem dX10_setPattern_18 : decode cX10_setPattern 18 = .ok (.invokestatic 58, 3) := by decide +kernel
theorem dX10_setPattern_21 : decode cX10_setPattern 21 = .ok (.ifCond .ne 6, 3) := by decide +kernel
theorem dX10_setPattern_24 : decode cX10_setPattern 24 = .ok (.bipush (-2), 2) := by decide +kernel
theorem dX10_setPattern_26 : decode cX10_setPattern 26 = .ok (.ireturn, 1) := by decide +kernel
theorem dX10_setPattern_27 : decode cX10_setPattern 27 = .ok (.aload_n 0, 1) := by decide +kernel
theorem dX10_setPattern_28 : decode cX10_setPattern 28 = .ok (.getfield 28, 3) := by decide +kernel
theorem dX10_setPattern_31 : decode cX10_setPattern 31 = .ok (.invokevirtual 66, 3) := by decide +kernel
theorem dX10_setPattern_34 : decode cX10_setPattern 34 = .ok (.aload_n 0, 1) := by decide +kernel
theorem dX10_setPattern_35 : decode cX10_setPattern 35 = .ok (.getfield 10, 3) := by decide +kernel
theorem dX10_setPattern_38 : decode cX10_setPattern 38 = .ok (.getfield 76, 3) := by decide +kernel
theorem dX10_setPattern_41 : decode cX10_setPattern 41 = .ok (.iload_n 1, 1) := by decide +kernel
theorem dX10_setPattern_42 : decode cX10_setPattern 42 = .ok (.aaload, 1) := by decide +kernel
theorem dX10_setPattern_43 : decode cX10_setPattern 43 = .ok (.getfield 85, 3) := by decide +kernel
theorem dX10_setPattern_46 : decode cX10_setPattern 46 = .ok (.istore_n 3, 1) := by decide +kernel
theorem dX10_setPattern_47 : decode cX10_setPattern 47 = .ok (.aload_n 0, 1) := by decide +kernel
theorem dX10_setPattern_48 : decode cX10_setPattern 48 = .ok (.getfield 10, 3) := by decide +kernel
theorem dX10_setPattern_51 : decode cX10_setPattern 51 = .ok (.getfield 76, 3) := by decide +kernel
theorem dX10_setPattern_54 : decode cX10_setPattern 54 = .ok (.iload_n 1, 1) := by decide +kernel
theorem dX10_setPattern_55 : decode cX10_setPattern 55 = .ok (.aaload, 1) := by decide +kernel
theorem dX10_setPattern_56 : decode cX10_setPattern 56 = .ok (.iload_n 2, 1) := by decide +kernel
theorem dX10_setPattern_57 : decode cX10_setPattern 57 = .ok (.putfield 85, 3) := by decide +kernel
theorem dX10_setPattern_60 : decode cX10_setPattern 60 = .ok (.iload_n 3, 1) := by decide +kernel
theorem dX10_setPattern_61 : decode cX10_setPattern 61 = .ok (.ireturn, 1) := by decide +kernel
theorem dX10_configure_0 : decode cX10_configure 0 = .ok (.iload_n 1, 1) := by decide +kernel
theorem dX10_configure_1 : decode cX10_configure 1 = .ok (.invokestatic 51, 3) := by decide +kernel
theorem dX10_configure_4 : decode cX10_configure 4 = .ok (.ifCond .eq 59, 3) := by decide +kernel
theorem dX10_configure_7 : decode cX10_configure 7 = .ok (.iload_n 2, 1) := by decide +kernel
theorem dX10_configure_8 : decode cX10_configure 8 = .ok (.iconst 0, 1) := by decide +kernel
theorem dX10_configure_9 : decode cX10_configure 9 = .ok (.iconst 2, 1) := by decide +kernel
theorem dX10_configure_10 : decode cX10_configure 10 = .ok (.invokestatic 58, 3) := by decide +kernel
theorem dX10_configure_13 : decode cX10_configure 13 = .ok (.ifCond .eq 50, 3) := by decide +kernel
theorem dX10_configure_16 : decode cX10_configure 16 = .ok (.iload_n 3, 1) := by decide +kernel
theorem dX10_configure_17 : decode cX10_configure 17 = .ok (.iconst 1, 1) := by decide +kernel
theorem dX10_configure_18 : decode cX10_configure 18 = .ok (.bipush 9, 2) := by decide +kernel
theorem dX10_configure_20 : decode cX10_configure 20 = .ok (.invokestatic 58, 3) := by decide +kernel
theorem dX10_configure_23 : decode cX10_configure 23 = .ok (.ifCond .eq 40, 3) := by decide +kernel
theorem dX10_configure_26 : decode cX10_configure 26 = .ok (.iload 4, 2) := by decide +kernel
theorem dX10_configure_28 : decode cX10_configure 28 = .ok (.iconst 1, 1) := by decide +kernel
theorem dX10_configure_29 : decode cX10_configure 29 = .ok (.bipush 20, 2) := by decide +kernel
theorem dX10_configure_31 : decode cX10_configure 31 = .ok (.invokestatic 58, 3) := by decide +kernel
theorem dX10_configure_34 : decode cX10_configure 34 = .ok (.ifCond .eq 29, 3) := by decide +kernel
theorem dX10_configure_37 : decode cX10_configure 37 = .ok (.iload 5, 2) := by decide +kernel
theorem dX10_configure_39 : decode cX10_configure 39 = .ok (.iconst 0, 1) := by decide +kernel
theorem dX10_configure_40 : decode cX10_configure 40 = .ok (.bipush 100, 2) := by decide +kernel
theorem dX10_configure_42 : decode cX10_configure 42 = .ok (.invokestatic 58, 3) := by decide +kernel
theorem dX10_configure_45 : decode cX10_configure 45 = .ok (.ifCond .eq 18, 3) := by decide +kernel
theorem dX10_configure_48 : decode cX10_configure 48 = .ok (.iload 6, 2) := by decide +kernel
theorem dX10_configure_50 : decode cX10_configure 50 = .ok (.iconst 0, 1) := by decide +kernel
theorem dX10_configure_51 : decode cX10_configure 51 = .ok (.bipush 100, 2) := by decide +kernel
theorem dX10_configure_53 : decode cX10_configure 53 = .ok (.invokestatic 58, 3) := by decide +kernel
theorem dX10_configure_56 : decode cX10_configure 56 = .ok (.ifCond .eq 7, 3) := by decide +kernel
theorem dX10_configure_59 : decode cX10_configure 59 = .ok (.iconst 1, 1) := by decide +kernel
theorem dX10_configure_60 : decode cX10_configure 60 = .ok (.goto 4, 3) := by decide +kernel
theorem dX10_configure_63 : decode cX10_configure 63 = .ok (.iconst 0, 1) := by decide +kernel
theorem dX10_configure_64 : decode cX10_configure 64 = .ok (.istore 7, 2) := by decide +kernel
theorem dX10_configure_66 : decode cX10_configure 66 = .ok (.iload 7, 2) := by decide +kernel
theorem dX10_configure_68 : decode cX10_configure 68 = .ok (.ifCond .ne 6, 3) := by decide +kernel
theorem dX10_configure_71 : decode cX10_configure 71 = .ok (.bipush (-2), 2) := by decide +kernel
theorem dX10_configure_73 : decode cX10_configure 73 = .ok (.ireturn, 1) := by decide +kernel
theorem dX10_configure_74 : decode cX10_configure 74 = .ok (.aload_n 0, 1) := by decide +kernel
theorem dX10_configure_75 : decode cX10_configure 75 = .ok (.getfield 28, 3) := by decide +kernel
theorem dX10_configure_78 : decode cX10_configure 78 = .ok (.invokevirtual 66, 3) := by decide +kernel
theorem dX10_configure_81 : decode cX10_configure 81 = .ok (.aload_n 0, 1) := by decide +kernel
theorem dX10_configure_82 : decode cX10_configure 82 = .ok (.getfield 10, 3) := by decide +kernel
theorem dX10_configure_85 : decode cX10_configure 85 = .ok (.getfield 88, 3) := by decide +kernel
theorem dX10_configure_88 : decode cX10_configure 88 = .ok (.iload_n 1, 1) := by decide +kernel
theorem dX10_configure_89 : decode cX10_configure 89 = .ok (.aaload, 1) := by decide +kernel
theorem dX10_configure_90 : decode cX10_configure 90 = .ok (.astore 8, 2) := by decide +kernel
theorem dX10_configure_92 : decode cX10_configure 92 = .ok (.aload 8, 2) := by decide +kernel
theorem dX10_configure_94 : decode cX10_configure 94 = .ok (.getfield 92, 3) := by decide +kernel
theorem dX10_configure_97 : decode cX10_configure 97 = .ok (.istore 9, 2) := by decide +kernel
theorem dX10_configure_99 : decode cX10_configure 99 = .ok (.aload 8, 2) := by decide +kernel
theorem dX10_configure_101 : decode cX10_configure 101 = .ok (.iload_n 2, 1) := by decide +kernel
theorem dX10_configure_102 : decode cX10_configure 102 = .ok (.putfield 92, 3) := by decide +kernel
theorem dX10_configure_105 : decode cX10_configure 105 = .ok (.aload 8, 2) := by decide +kernel
theorem dX10_configure_107 : decode cX10_configure 107 = .ok (.iload_n 3, 1) := by decide +kernel
theorem dX10_configure_108 : decode cX10_configure 108 = .ok (.putfield 97, 3) := by decide +kernel
theorem dX10_configure_111 : decode cX10_configure 111 = .ok (.aload 8, 2) := by decide +kernel
theorem dX10_configure_113 : decode cX10_configure 113 = .ok (.iload 4, 2) := by decide +kernel
theorem dX10_configure_115 : decode cX10_configure 115 = .ok (.putfield 100, 3) := by decide +kernel
theorem dX10_configure_118 : decode cX10_configure 118 = .ok (.aload 8, 2) := by decide +kernel
theorem dX10_configure_120 : decode cX10_configure 120 = .ok (.iload 5, 2) := by decide +kernel
theorem dX10_configure_122 : decode cX10_configure 122 = .ok (.putfield 103, 3) := by decide +kernel
theorem dX10_configure_125 : decode cX10_configure 125 = .ok (.aload 8, 2) := by decide +kernel
theorem dX10_configure_127 : decode cX10_configure 127 = .ok (.iload 6, 2) := by decide +kernel
theorem dX10_configure_129 : decode cX10_configure 129 = .ok (.putfield 106, 3) := by decide +kernel
theorem dX10_configure_132 : decode cX10_configure 132 = .ok (.iload 9, 2) := by decide +kernel
theorem dX10_configure_134 : decode cX10_configure 134 = .ok (.ireturn, 1) := by decide +kernel
theorem dX10_setZoneLimit_0 : decode cX10_setZoneLimit 0 = .ok (.iload_n 1, 1) := by decide +kernel
theorem dX10_setZoneLimit_1 : decode cX10_setZoneLimit 1 = .ok (.iconst 1, 1) := by decide +kernel
theorem dX10_setZoneLimit_2 : decode cX10_setZoneLimit 2 = .ok (.bipush 100, 2) := by decide +kernel
theorem dX10_setZoneLimit_4 : decode cX10_setZoneLimit 4 = .ok (.invokestatic 58, 3) := by decide +kernel
theorem dX10_setZoneLimit_7 : decode cX10_setZoneLimit 7 = .ok (.ifCond .ne 6, 3) := by decide +kernel
theorem dX10_setZoneLimit_10 : decode cX10_setZoneLimit 10 = .ok (.bipush (-2), 2) := by decide +kernel
theorem dX10_setZoneLimit_12 : decode cX10_setZoneLimit 12 = .ok (.ireturn, 1) := by decide +kernel
theorem dX10_setZoneLimit_13 : decode cX10_setZoneLimit 13 = .ok (.aload_n 0, 1) := by decide +kernel
theorem dX10_setZoneLimit_14 : decode cX10_setZoneLimit 14 = .ok (.getfield 28, 3) := by decide +kernel
theorem dX10_setZoneLimit_17 : decode cX10_setZoneLimit 17 = .ok (.invokevirtual 66, 3) := by decide +kernel
theorem dX10_setZoneLimit_20 : decode cX10_setZoneLimit 20 = .ok (.aload_n 0, 1) := by decide +kernel
theorem dX10_setZoneLimit_21 : decode cX10_setZoneLimit 21 = .ok (.getfield 10, 3) := by decide +kernel
theorem dX10_setZoneLimit_24 : decode cX10_setZoneLimit 24 = .ok (.getfield 109, 3) := by decide +kernel
theorem dX10_setZoneLimit_27 : decode cX10_setZoneLimit 27 = .ok (.istore_n 2, 1) := by decide +kernel
theorem dX10_setZoneLimit_28 : decode cX10_setZoneLimit 28 = .ok (.aload_n 0, 1) := by decide +kernel
theorem dX10_setZoneLimit_29 : decode cX10_setZoneLimit 29 = .ok (.getfield 10, 3) := by decide +kernel
theorem dX10_setZoneLimit_32 : decode cX10_setZoneLimit 32 = .ok (.iload_n 1, 1) := by decide +kernel
theorem dX10_setZoneLimit_33 : decode cX10_setZoneLimit 33 = .ok (.putfield 109, 3) := by decide +kernel
theorem dX10_setZoneLimit_36 : decode cX10_setZoneLimit 36 = .ok (.iload_n 2, 1) := by decide +kernel
theorem dX10_setZoneLimit_37 : decode cX10_setZoneLimit 37 = .ok (.ireturn, 1) := by decide +kernel
theorem dX10_append_0 : decode cX10_append 0 = .ok (.iload_n 1, 1) := by decide +kernel
theorem dX10_append_1 : decode cX10_append 1 = .ok (.iconst 0, 1) := by decide +kernel
theorem dX10_append_2 : decode cX10_append 2 = .ok (.bipush 127, 2) := by decide +kernel
theorem dX10_append_4 : decode cX10_append 4 = .ok (.invokestatic 58, 3) := by decide +kernel
theorem dX10_append_7 : decode cX10_append 7 = .ok (.ifCond .eq 13, 3) := by decide +kernel
theorem dX10_append_10 : decode cX10_append 10 = .ok (.iload_n 2, 1) := by decide +kernel
theorem dX10_append_11 : decode cX10_append 11 = .ok (.iconst 1, 1) := by decide +kernel
theorem dX10_append_12 : decode cX10_append 12 = .ok (.bipush 40, 2) := by decide +kernel
theorem dX10_append_14 : decode cX10_append 14 = .ok (.invokestatic 58, 3) := by decide +kernel
theorem dX10_append_17 : decode cX10_append 17 = .ok (.ifCond .ne 6, 3) := by decide +kernel
theorem dX10_append_20 : decode cX10_append 20 = .ok (.bipush (-2), 2) := by decide +kernel
theorem dX10_append_22 : decode cX10_append 22 = .ok (.ireturn, 1) := by decide +kernel
theorem dX10_append_23 : decode cX10_append 23 = .ok (.aload_n 0, 1) := by decide +kernel
theorem dX10_append_24 : decode cX10_append 24 = .ok (.getfield 35, 3) := by decide +kernel
theorem dX10_append_27 : decode cX10_append 27 = .ok (.getfield 112, 3) := by decide +kernel
theorem dX10_append_30 : decode cX10_append 30 = .ok (.iload_n 2, 1) := by decide +kernel
theorem dX10_append_31 : decode cX10_append 31 = .ok (.iadd, 1) := by decide +kernel
theorem dX10_append_32 : decode cX10_append 32 = .ok (.bipush 40, 2) := by decide +kernel
theorem dX10_append_34 : decode cX10_append 34 = .ok (.if_icmp .le 6, 3) := by decide +kernel
theorem dX10_append_37 : decode cX10_append 37 = .ok (.bipush (-3), 2) := by decide +kernel
theorem dX10_append_39 : decode cX10_append 39 = .ok (.ireturn, 1) := by decide +kernel
theorem dX10_append_40 : decode cX10_append 40 = .ok (.iconst 0, 1) := by decide +kernel
theorem dX10_append_41 : decode cX10_append 41 = .ok (.istore_n 3, 1) := by decide +kernel
theorem dX10_append_42 : decode cX10_append 42 = .ok (.iload_n 3, 1) := by decide +kernel
theorem dX10_append_43 : decode cX10_append 43 = .ok (.iload_n 2, 1) := by decide +kernel
theorem dX10_append_44 : decode cX10_append 44 = .ok (.if_icmp .ge 17, 3) := by decide +kernel
theorem dX10_append_47 : decode cX10_append 47 = .ok (.aload_n 0, 1) := by decide +kernel
theorem dX10_append_48 : decode cX10_append 48 = .ok (.getfield 35, 3) := by decide +kernel
theorem dX10_append_51 : decode cX10_append 51 = .ok (.iload_n 1, 1) := by decide +kernel
theorem dX10_append_52 : decode cX10_append 52 = .ok (.invokevirtual 115, 3) := by decide +kernel
theorem dX10_append_55 : decode cX10_append 55 = .ok (.iinc 3 1, 3) := by decide +kernel
theorem dX10_append_58 : decode cX10_append 58 = .ok (.goto (-16), 3) := by decide +kernel
theorem dX10_append_61 : decode cX10_append 61 = .ok (.aload_n 0, 1) := by decide +kernel
theorem dX10_append_62 : decode cX10_append 62 = .ok (.getfield 35, 3) := by decide +kernel
theorem dX10_append_65 : decode cX10_append 65 = .ok (.getfield 112, 3) := by decide +kernel
theorem dX10_append_68 : decode cX10_append 68 = .ok (.ireturn, 1) := by decide +kernel
theorem dX10_addRule_0 : decode cX10_addRule 0 = .ok (.aload_n 0, 1) := by decide +kernel
theorem dX10_addRule_1 : decode cX10_addRule 1 = .ok (.getfield 47, 3) := by decide +kernel
theorem dX10_addRule_4 : decode cX10_addRule 4 = .ok (.invokevirtual 119, 3) := by decide +kernel
theorem dX10_addRule_7 : decode cX10_addRule 7 = .ok (.istore_n 1, 1) := by decide +kernel
theorem dX10_addRule_8 : decode cX10_addRule 8 = .ok (.aload_n 0, 1) := by decide +kernel
theorem dX10_addRule_9 : decode cX10_addRule 9 = .ok (.getfield 35, 3) := by decide +kernel
theorem dX10_addRule_12 : decode cX10_addRule 12 = .ok (.invokevirtual 123, 3) := by decide +kernel
theorem dX10_addRule_15 : decode cX10_addRule 15 = .ok (.iload_n 1, 1) := by decide +kernel
theorem dX10_addRule_16 : decode cX10_addRule 16 = .ok (.iconst (-1), 1) := by decide +kernel
theorem dX10_addRule_17 : decode cX10_addRule 17 = .ok (.if_icmp .eq 8, 3) := by decide +kernel
theorem dX10_addRule_20 : decode cX10_addRule 20 = .ok (.bipush (-100), 2) := by decide +kernel
theorem dX10_addRule_22 : decode cX10_addRule 22 = .ok (.iload_n 1, 1) := by decide +kernel
theorem dX10_addRule_23 : decode cX10_addRule 23 = .ok (.isub, 1) := by decide +kernel
theorem dX10_addRule_24 : decode cX10_addRule 24 = .ok (.ireturn, 1) := by decide +kernel
theorem dX10_addRule_25 : decode cX10_addRule 25 = .ok (.aload_n 0, 1) := by decide +kernel
theorem dX10_addRule_26 : decode cX10_addRule 26 = .ok (.getfield 10, 3) := by decide +kernel
theorem dX10_addRule_29 : decode cX10_addRule 29 = .ok (.getfield 126, 3) := by decide +kernel
theorem dX10_addRule_32 : decode cX10_addRule 32 = .ok (.bipush 8, 2) := by decide +kernel
theorem dX10_addRule_34 : decode cX10_addRule 34 = .ok (.if_icmp .lt 6, 3) := by decide +kernel
theorem dX10_addRule_37 : decode cX10_addRule 37 = .ok (.bipush (-3), 2) := by decide +kernel
theorem dX10_addRule_39 : decode cX10_addRule 39 = .ok (.ireturn, 1) := by decide +kernel
theorem dX10_addRule_40 : decode cX10_addRule 40 = .ok (.aload_n 0, 1) := by decide +kernel
theorem dX10_addRule_41 : decode cX10_addRule 41 = .ok (.getfield 28, 3) := by decide +kernel
theorem dX10_addRule_44 : decode cX10_addRule 44 = .ok (.invokevirtual 66, 3) := by decide +kernel
theorem dX10_addRule_47 : decode cX10_addRule 47 = .ok (.aload_n 0, 1) := by decide +kernel
theorem dX10_addRule_48 : decode cX10_addRule 48 = .ok (.getfield 10, 3) := by decide +kernel
theorem dX10_addRule_51 : decode cX10_addRule 51 = .ok (.aload_n 0, 1) := by decide +kernel
theorem dX10_addRule_52 : decode cX10_addRule 52 = .ok (.getfield 47, 3) := by decide +kernel
theorem dX10_addRule_55 : decode cX10_addRule 55 = .ok (.getfield 129, 3) := by decide +kernel
theorem dX10_addRule_58 : decode cX10_addRule 58 = .ok (.invokevirtual 133, 3) := by decide +kernel
theorem dX10_addRule_61 : decode cX10_addRule 61 = .ok (.ireturn, 1) := by decide +kernel
theorem dX10_removeRule_0 : decode cX10_removeRule 0 = .ok (.aload_n 0, 1) := by decide +kernel
theorem dX10_removeRule_1 : decode cX10_removeRule 1 = .ok (.getfield 10, 3) := by decide +kernel
theorem dX10_removeRule_4 : decode cX10_removeRule 4 = .ok (.iload_n 1, 1) := by decide +kernel
theorem dX10_removeRule_5 : decode cX10_removeRule 5 = .ok (.invokevirtual 137, 3) := by decide +kernel
theorem dX10_removeRule_8 : decode cX10_removeRule 8 = .ok (.ifCond .ne 5, 3) := by decide +kernel
theorem dX10_removeRule_11 : decode cX10_removeRule 11 = .ok (.iconst (-1), 1) := by decide +kernel
theorem dX10_removeRule_12 : decode cX10_removeRule 12 = .ok (.ireturn, 1) := by decide +kernel
theorem dX10_removeRule_13 : decode cX10_removeRule 13 = .ok (.aload_n 0, 1) := by decide +kernel
theorem dX10_removeRule_14 : decode cX10_removeRule 14 = .ok (.getfield 28, 3) := by decide +kernel
theorem dX10_removeRule_17 : decode cX10_removeRule 17 = .ok (.invokevirtual 66, 3) := by decide +kernel
theorem dX10_removeRule_20 : decode cX10_removeRule 20 = .ok (.aload_n 0, 1) := by decide +kernel
theorem dX10_removeRule_21 : decode cX10_removeRule 21 = .ok (.getfield 10, 3) := by decide +kernel
theorem dX10_removeRule_24 : decode cX10_removeRule 24 = .ok (.iload_n 1, 1) := by decide +kernel
theorem dX10_removeRule_25 : decode cX10_removeRule 25 = .ok (.aload_n 0, 1) := by decide +kernel
theorem dX10_removeRule_26 : decode cX10_removeRule 26 = .ok (.getfield 10, 3) := by decide +kernel
theorem dX10_removeRule_29 : decode cX10_removeRule 29 = .ok (.getfield 126, 3) := by decide +kernel
theorem dX10_removeRule_32 : decode cX10_removeRule 32 = .ok (.iconst 1, 1) := by decide +kernel
theorem dX10_removeRule_33 : decode cX10_removeRule 33 = .ok (.isub, 1) := by decide +kernel
theorem dX10_removeRule_34 : decode cX10_removeRule 34 = .ok (.invokevirtual 140, 3) := by decide +kernel
theorem dX10_removeRule_37 : decode cX10_removeRule 37 = .ok (.aload_n 0, 1) := by decide +kernel
theorem dX10_removeRule_38 : decode cX10_removeRule 38 = .ok (.getfield 10, 3) := by decide +kernel
theorem dX10_removeRule_41 : decode cX10_removeRule 41 = .ok (.dup, 1) := by decide +kernel
theorem dX10_removeRule_42 : decode cX10_removeRule 42 = .ok (.getfield 126, 3) := by decide +kernel
theorem dX10_removeRule_45 : decode cX10_removeRule 45 = .ok (.iconst 1, 1) := by decide +kernel
theorem dX10_removeRule_46 : decode cX10_removeRule 46 = .ok (.isub, 1) := by decide +kernel
theorem dX10_removeRule_47 : decode cX10_removeRule 47 = .ok (.putfield 126, 3) := by decide +kernel
theorem dX10_removeRule_50 : decode cX10_removeRule 50 = .ok (.aload_n 0, 1) := by decide +kernel
theorem dX10_removeRule_51 : decode cX10_removeRule 51 = .ok (.getfield 10, 3) := by decide +kernel
theorem dX10_removeRule_54 : decode cX10_removeRule 54 = .ok (.getfield 126, 3) := by decide +kernel
theorem dX10_removeRule_57 : decode cX10_removeRule 57 = .ok (.ireturn, 1) := by decide +kernel
theorem dX10_moveRule_0 : decode cX10_moveRule 0 = .ok (.aload_n 0, 1) := by decide +kernel
theorem dX10_moveRule_1 : decode cX10_moveRule 1 = .ok (.getfield 10, 3) := by decide +kernel
theorem dX10_moveRule_4 : decode cX10_moveRule 4 = .ok (.iload_n 1, 1) := by decide +kernel
theorem dX10_moveRule_5 : decode cX10_moveRule 5 = .ok (.invokevirtual 137, 3) := by decide +kernel
theorem dX10_moveRule_8 : decode cX10_moveRule 8 = .ok (.ifCond .ne 5, 3) := by decide +kernel
theorem dX10_moveRule_11 : decode cX10_moveRule 11 = .ok (.iconst (-1), 1) := by decide +kernel
theorem dX10_moveRule_12 : decode cX10_moveRule 12 = .ok (.ireturn, 1) := by decide +kernel
theorem dX10_moveRule_13 : decode cX10_moveRule 13 = .ok (.aload_n 0, 1) := by decide +kernel
theorem dX10_moveRule_14 : decode cX10_moveRule 14 = .ok (.getfield 10, 3) := by decide +kernel
theorem dX10_moveRule_17 : decode cX10_moveRule 17 = .ok (.iload_n 2, 1) := by decide +kernel
theorem dX10_moveRule_18 : decode cX10_moveRule 18 = .ok (.invokevirtual 137, 3) := by decide +kernel
theorem dX10_moveRule_21 : decode cX10_moveRule 21 = .ok (.ifCond .ne 6, 3) := by decide +kernel
theorem dX10_moveRule_24 : decode cX10_moveRule 24 = .ok (.bipush (-2), 2) := by decide +kernel
theorem dX10_moveRule_26 : decode cX10_moveRule 26 = .ok (.ireturn, 1) := by decide +kernel
theorem dX10_moveRule_27 : decode cX10_moveRule 27 = .ok (.aload_n 0, 1) := by decide +kernel
theorem dX10_moveRule_28 : decode cX10_moveRule 28 = .ok (.getfield 28, 3) := by decide +kernel
theorem dX10_moveRule_31 : decode cX10_moveRule 31 = .ok (.invokevirtual 66, 3) := by decide +kernel
theorem dX10_moveRule_34 : decode cX10_moveRule 34 = .ok (.aload_n 0, 1) := by decide +kernel
theorem dX10_moveRule_35 : decode cX10_moveRule 35 = .ok (.getfield 10, 3) := by decide +kernel
theorem dX10_moveRule_38 : decode cX10_moveRule 38 = .ok (.iload_n 1, 1) := by decide +kernel
theorem dX10_moveRule_39 : decode cX10_moveRule 39 = .ok (.iload_n 2, 1) := by decide +kernel
theorem dX10_moveRule_40 : decode cX10_moveRule 40 = .ok (.invokevirtual 140, 3) := by decide +kernel
theorem dX10_moveRule_43 : decode cX10_moveRule 43 = .ok (.iload_n 1, 1) := by decide +kernel
theorem dX10_moveRule_44 : decode cX10_moveRule 44 = .ok (.iload_n 2, 1) := by decide +kernel
theorem dX10_moveRule_45 : decode cX10_moveRule 45 = .ok (.isub, 1) := by decide +kernel
theorem dX10_moveRule_46 : decode cX10_moveRule 46 = .ok (.invokestatic 144, 3) := by decide +kernel
theorem dX10_moveRule_49 : decode cX10_moveRule 49 = .ok (.ireturn, 1) := by decide +kernel
theorem dX10_match_0 : decode cX10_match 0 = .ok (.aload_n 0, 1) := by decide +kernel
theorem dX10_match_1 : decode cX10_match 1 = .ok (.iload_n 1, 1) := by decide +kernel
theorem dX10_match_2 : decode cX10_match 2 = .ok (.iconst 0, 1) := by decide +kernel
theorem dX10_match_3 : decode cX10_match 3 = .ok (.invokevirtual 150, 3) := by decide +kernel
theorem dX10_match_6 : decode cX10_match 6 = .ok (.istore_n 2, 1) := by decide +kernel
theorem dX10_match_7 : decode cX10_match 7 = .ok (.iload_n 2, 1) := by decide +kernel
theorem dX10_match_8 : decode cX10_match 8 = .ok (.ifCond .eq 7, 3) := by decide +kernel
theorem dX10_match_11 : decode cX10_match 11 = .ok (.iload_n 2, 1) := by decide +kernel
theorem dX10_match_12 : decode cX10_match 12 = .ok (.goto 15, 3) := by decide +kernel
theorem dX10_match_15 : decode cX10_match 15 = .ok (.aload_n 0, 1) := by decide +kernel
theorem dX10_match_16 : decode cX10_match 16 = .ok (.getfield 10, 3) := by decide +kernel
theorem dX10_match_19 : decode cX10_match 19 = .ok (.aload_n 0, 1) := by decide +kernel
theorem dX10_match_20 : decode cX10_match 20 = .ok (.getfield 35, 3) := by decide +kernel
theorem dX10_match_23 : decode cX10_match 23 = .ok (.iload_n 1, 1) := by decide +kernel
theorem dX10_match_24 : decode cX10_match 24 = .ok (.invokevirtual 154, 3) := by decide +kernel
theorem dX10_match_27 : decode cX10_match 27 = .ok (.ireturn, 1) := by decide +kernel
theorem dX10_request_0 : decode cX10_request 0 = .ok (.aload_n 0, 1) := by decide +kernel
theorem dX10_request_1 : decode cX10_request 1 = .ok (.iload_n 1, 1) := by decide +kernel
theorem dX10_request_2 : decode cX10_request 2 = .ok (.iload_n 2, 1) := by decide +kernel
theorem dX10_request_3 : decode cX10_request 3 = .ok (.invokevirtual 150, 3) := by decide +kernel
theorem dX10_request_6 : decode cX10_request 6 = .ok (.istore_n 3, 1) := by decide +kernel
theorem dX10_request_7 : decode cX10_request 7 = .ok (.iload_n 3, 1) := by decide +kernel
theorem dX10_request_8 : decode cX10_request 8 = .ok (.ifCond .eq 7, 3) := by decide +kernel
theorem dX10_request_11 : decode cX10_request 11 = .ok (.iconst (-1), 1) := by decide +kernel
theorem dX10_request_12 : decode cX10_request 12 = .ok (.goto 15, 3) := by decide +kernel
theorem dX10_request_15 : decode cX10_request 15 = .ok (.aload_n 0, 1) := by decide +kernel
theorem dX10_request_16 : decode cX10_request 16 = .ok (.getfield 10, 3) := by decide +kernel
theorem dX10_request_19 : decode cX10_request 19 = .ok (.aload_n 0, 1) := by decide +kernel
theorem dX10_request_20 : decode cX10_request 20 = .ok (.getfield 35, 3) := by decide +kernel
theorem dX10_request_23 : decode cX10_request 23 = .ok (.iload_n 1, 1) := by decide +kernel
theorem dX10_request_24 : decode cX10_request 24 = .ok (.invokevirtual 154, 3) := by decide +kernel
theorem dX10_request_27 : decode cX10_request 27 = .ok (.istore 4, 2) := by decide +kernel
theorem dX10_request_29 : decode cX10_request 29 = .ok (.aload_n 0, 1) := by decide +kernel
theorem dX10_request_30 : decode cX10_request 30 = .ok (.getfield 35, 3) := by decide +kernel
theorem dX10_request_33 : decode cX10_request 33 = .ok (.invokevirtual 123, 3) := by decide +kernel
theorem dX10_request_36 : decode cX10_request 36 = .ok (.iload_n 3, 1) := by decide +kernel
theorem dX10_request_37 : decode cX10_request 37 = .ok (.ifCond .eq 5, 3) := by decide +kernel
theorem dX10_request_40 : decode cX10_request 40 = .ok (.iload_n 3, 1) := by decide +kernel
theorem dX10_request_41 : decode cX10_request 41 = .ok (.ireturn, 1) := by decide +kernel
theorem dX10_request_42 : decode cX10_request 42 = .ok (.aload_n 0, 1) := by decide +kernel
theorem dX10_request_43 : decode cX10_request 43 = .ok (.getfield 10, 3) := by decide +kernel
theorem dX10_request_46 : decode cX10_request 46 = .ok (.iload 4, 2) := by decide +kernel
theorem dX10_request_48 : decode cX10_request 48 = .ok (.iload_n 1, 1) := by decide +kernel
theorem dX10_request_49 : decode cX10_request 49 = .ok (.iload_n 2, 1) := by decide +kernel
theorem dX10_request_50 : decode cX10_request 50 = .ok (.invokevirtual 158, 3) := by decide +kernel
theorem dX10_request_53 : decode cX10_request 53 = .ok (.istore 5, 2) := by decide +kernel
theorem dX10_request_55 : decode cX10_request 55 = .ok (.aload_n 0, 1) := by decide +kernel
theorem dX10_request_56 : decode cX10_request 56 = .ok (.getfield 28, 3) := by decide +kernel
theorem dX10_request_59 : decode cX10_request 59 = .ok (.iload 4, 2) := by decide +kernel
theorem dX10_request_61 : decode cX10_request 61 = .ok (.iload_n 1, 1) := by decide +kernel
theorem dX10_request_62 : decode cX10_request 62 = .ok (.iload_n 2, 1) := by decide +kernel
theorem dX10_request_63 : decode cX10_request 63 = .ok (.iload 5, 2) := by decide +kernel
theorem dX10_request_65 : decode cX10_request 65 = .ok (.invokevirtual 161, 3) := by decide +kernel
theorem dX10_request_68 : decode cX10_request 68 = .ok (.iload 5, 2) := by decide +kernel
theorem dX10_request_70 : decode cX10_request 70 = .ok (.ireturn, 1) := by decide +kernel
theorem dX10_foresee_0 : decode cX10_foresee 0 = .ok (.aload_n 0, 1) := by decide +kernel
theorem dX10_foresee_1 : decode cX10_foresee 1 = .ok (.iload_n 1, 1) := by decide +kernel
theorem dX10_foresee_2 : decode cX10_foresee 2 = .ok (.iload_n 2, 1) := by decide +kernel
theorem dX10_foresee_3 : decode cX10_foresee 3 = .ok (.invokevirtual 150, 3) := by decide +kernel
theorem dX10_foresee_6 : decode cX10_foresee 6 = .ok (.istore_n 3, 1) := by decide +kernel
theorem dX10_foresee_7 : decode cX10_foresee 7 = .ok (.iload_n 3, 1) := by decide +kernel
theorem dX10_foresee_8 : decode cX10_foresee 8 = .ok (.ifCond .eq 5, 3) := by decide +kernel
theorem dX10_foresee_11 : decode cX10_foresee 11 = .ok (.iload_n 3, 1) := by decide +kernel
theorem dX10_foresee_12 : decode cX10_foresee 12 = .ok (.ireturn, 1) := by decide +kernel
theorem dX10_foresee_13 : decode cX10_foresee 13 = .ok (.aload_n 0, 1) := by decide +kernel
theorem dX10_foresee_14 : decode cX10_foresee 14 = .ok (.getfield 22, 3) := by decide +kernel
theorem dX10_foresee_17 : decode cX10_foresee 17 = .ok (.aload_n 0, 1) := by decide +kernel
theorem dX10_foresee_18 : decode cX10_foresee 18 = .ok (.getfield 10, 3) := by decide +kernel
theorem dX10_foresee_21 : decode cX10_foresee 21 = .ok (.invokevirtual 165, 3) := by decide +kernel
theorem dX10_foresee_24 : decode cX10_foresee 24 = .ok (.aload_n 0, 1) := by decide +kernel
theorem dX10_foresee_25 : decode cX10_foresee 25 = .ok (.getfield 22, 3) := by decide +kernel
theorem dX10_foresee_28 : decode cX10_foresee 28 = .ok (.aload_n 0, 1) := by decide +kernel
theorem dX10_foresee_29 : decode cX10_foresee 29 = .ok (.getfield 10, 3) := by decide +kernel
theorem dX10_foresee_32 : decode cX10_foresee 32 = .ok (.aload_n 0, 1) := by decide +kernel
theorem dX10_foresee_33 : decode cX10_foresee 33 = .ok (.getfield 35, 3) := by decide +kernel
theorem dX10_foresee_36 : decode cX10_foresee 36 = .ok (.iload_n 1, 1) := by decide +kernel
theorem dX10_foresee_37 : decode cX10_foresee 37 = .ok (.invokevirtual 154, 3) := by decide +kernel
theorem dX10_foresee_40 : decode cX10_foresee 40 = .ok (.iload_n 1, 1) := by decide +kernel
theorem dX10_foresee_41 : decode cX10_foresee 41 = .ok (.iload_n 2, 1) := by decide +kernel
theorem dX10_foresee_42 : decode cX10_foresee 42 = .ok (.invokevirtual 158, 3) := by decide +kernel
theorem dX10_foresee_45 : decode cX10_foresee 45 = .ok (.ireturn, 1) := by decide +kernel
theorem dX10_tick_0 : decode cX10_tick 0 = .ok (.iload_n 1, 1) := by decide +kernel
theorem dX10_tick_1 : decode cX10_tick 1 = .ok (.iconst 1, 1) := by decide +kernel
theorem dX10_tick_2 : decode cX10_tick 2 = .ok (.bipush 50, 2) := by decide +kernel
theorem dX10_tick_4 : decode cX10_tick 4 = .ok (.invokestatic 58, 3) := by decide +kernel
theorem dX10_tick_7 : decode cX10_tick 7 = .ok (.ifCond .ne 6, 3) := by decide +kernel
theorem dX10_tick_10 : decode cX10_tick 10 = .ok (.bipush (-2), 2) := by decide +kernel
theorem dX10_tick_12 : decode cX10_tick 12 = .ok (.ireturn, 1) := by decide +kernel
theorem dX10_tick_13 : decode cX10_tick 13 = .ok (.iconst 0, 1) := by decide +kernel
theorem dX10_tick_14 : decode cX10_tick 14 = .ok (.istore_n 2, 1) := by decide +kernel
theorem dX10_tick_15 : decode cX10_tick 15 = .ok (.iload_n 2, 1) := by decide +kernel
theorem dX10_tick_16 : decode cX10_tick 16 = .ok (.iload_n 1, 1) := by decide +kernel
theorem dX10_tick_17 : decode cX10_tick 17 = .ok (.if_icmp .ge 16, 3) := by decide +kernel
theorem dX10_tick_20 : decode cX10_tick 20 = .ok (.aload_n 0, 1) := by decide +kernel
theorem dX10_tick_21 : decode cX10_tick 21 = .ok (.getfield 10, 3) := by decide +kernel
theorem dX10_tick_24 : decode cX10_tick 24 = .ok (.invokevirtual 169, 3) := by decide +kernel
theorem dX10_tick_27 : decode cX10_tick 27 = .ok (.iinc 2 1, 3) := by decide +kernel
theorem dX10_tick_30 : decode cX10_tick 30 = .ok (.goto (-15), 3) := by decide +kernel
theorem dX10_tick_33 : decode cX10_tick 33 = .ok (.aload_n 0, 1) := by decide +kernel
theorem dX10_tick_34 : decode cX10_tick 34 = .ok (.getfield 28, 3) := by decide +kernel
theorem dX10_tick_37 : decode cX10_tick 37 = .ok (.iload_n 1, 1) := by decide +kernel
theorem dX10_tick_38 : decode cX10_tick 38 = .ok (.invokevirtual 172, 3) := by decide +kernel
theorem dX10_tick_41 : decode cX10_tick 41 = .ok (.aload_n 0, 1) := by decide +kernel
theorem dX10_tick_42 : decode cX10_tick 42 = .ok (.getfield 10, 3) := by decide +kernel
theorem dX10_tick_45 : decode cX10_tick 45 = .ok (.getfield 175, 3) := by decide +kernel
theorem dX10_tick_48 : decode cX10_tick 48 = .ok (.ireturn, 1) := by decide +kernel
theorem dX10_backend_0 : decode cX10_backend 0 = .ok (.aload_n 0, 1) := by decide +kernel
theorem dX10_backend_1 : decode cX10_backend 1 = .ok (.getfield 10, 3) := by decide +kernel
theorem dX10_backend_4 : decode cX10_backend 4 = .ok (.iload_n 1, 1) := by decide +kernel
theorem dX10_backend_5 : decode cX10_backend 5 = .ok (.invokevirtual 73, 3) := by decide +kernel
theorem dX10_backend_8 : decode cX10_backend 8 = .ok (.ifCond .eq 19, 3) := by decide +kernel
theorem dX10_backend_11 : decode cX10_backend 11 = .ok (.aload_n 0, 1) := by decide +kernel
theorem dX10_backend_12 : decode cX10_backend 12 = .ok (.getfield 10, 3) := by decide +kernel
theorem dX10_backend_15 : decode cX10_backend 15 = .ok (.getfield 76, 3) := by decide +kernel
theorem dX10_backend_18 : decode cX10_backend 18 = .ok (.iload_n 1, 1) := by decide +kernel
theorem dX10_backend_19 : decode cX10_backend 19 = .ok (.aaload, 1) := by decide +kernel
theorem dX10_backend_20 : decode cX10_backend 20 = .ok (.iload_n 2, 1) := by decide +kernel
theorem dX10_backend_21 : decode cX10_backend 21 = .ok (.invokevirtual 178, 3) := by decide +kernel
theorem dX10_backend_24 : decode cX10_backend 24 = .ok (.goto 4, 3) := by decide +kernel
theorem dX10_backend_27 : decode cX10_backend 27 = .ok (.iconst (-1), 1) := by decide +kernel
theorem dX10_backend_28 : decode cX10_backend 28 = .ok (.ireturn, 1) := by decide +kernel
theorem dX10_service_0 : decode cX10_service 0 = .ok (.iload_n 1, 1) := by decide +kernel
theorem dX10_service_1 : decode cX10_service 1 = .ok (.invokestatic 51, 3) := by decide +kernel
theorem dX10_service_4 : decode cX10_service 4 = .ok (.ifCond .eq 15, 3) := by decide +kernel
theorem dX10_service_7 : decode cX10_service 7 = .ok (.aload_n 0, 1) := by decide +kernel
theorem dX10_service_8 : decode cX10_service 8 = .ok (.getfield 10, 3) := by decide +kernel
theorem dX10_service_11 : decode cX10_service 11 = .ok (.iload_n 1, 1) := by decide +kernel
theorem dX10_service_12 : decode cX10_service 12 = .ok (.iload_n 2, 1) := by decide +kernel
theorem dX10_service_13 : decode cX10_service 13 = .ok (.invokevirtual 181, 3) := by decide +kernel
theorem dX10_service_16 : decode cX10_service 16 = .ok (.goto 5, 3) := by decide +kernel
theorem dX10_service_19 : decode cX10_service 19 = .ok (.bipush (-2), 2) := by decide +kernel
theorem dX10_service_21 : decode cX10_service 21 = .ok (.ireturn, 1) := by decide +kernel
theorem dX10_remembered_0 : decode cX10_remembered 0 = .ok (.iload_n 1, 1) := by decide +kernel
theorem dX10_remembered_1 : decode cX10_remembered 1 = .ok (.invokestatic 51, 3) := by decide +kernel
theorem dX10_remembered_4 : decode cX10_remembered 4 = .ok (.ifCond .eq 10, 3) := by decide +kernel
theorem dX10_remembered_7 : decode cX10_remembered 7 = .ok (.iload_n 2, 1) := by decide +kernel
theorem dX10_remembered_8 : decode cX10_remembered 8 = .ok (.invokestatic 184, 3) := by decide +kernel
theorem dX10_remembered_11 : decode cX10_remembered 11 = .ok (.ifCond .ne 6, 3) := by decide +kernel
theorem dX10_remembered_14 : decode cX10_remembered 14 = .ok (.bipush (-2), 2) := by decide +kernel
theorem dX10_remembered_16 : decode cX10_remembered 16 = .ok (.ireturn, 1) := by decide +kernel
theorem dX10_remembered_17 : decode cX10_remembered 17 = .ok (.aload_n 0, 1) := by decide +kernel
theorem dX10_remembered_18 : decode cX10_remembered 18 = .ok (.getfield 10, 3) := by decide +kernel
theorem dX10_remembered_21 : decode cX10_remembered 21 = .ok (.getfield 88, 3) := by decide +kernel
theorem dX10_remembered_24 : decode cX10_remembered 24 = .ok (.iload_n 1, 1) := by decide +kernel
theorem dX10_remembered_25 : decode cX10_remembered 25 = .ok (.aaload, 1) := by decide +kernel
theorem dX10_remembered_26 : decode cX10_remembered 26 = .ok (.getfield 187, 3) := by decide +kernel
theorem dX10_remembered_29 : decode cX10_remembered 29 = .ok (.iload_n 2, 1) := by decide +kernel
theorem dX10_remembered_30 : decode cX10_remembered 30 = .ok (.iaload, 1) := by decide +kernel
theorem dX10_remembered_31 : decode cX10_remembered 31 = .ok (.ireturn, 1) := by decide +kernel
theorem dX10_target_0 : decode cX10_target 0 = .ok (.aload_n 0, 1) := by decide +kernel
theorem dX10_target_1 : decode cX10_target 1 = .ok (.getfield 10, 3) := by decide +kernel
theorem dX10_target_4 : decode cX10_target 4 = .ok (.iload_n 1, 1) := by decide +kernel
theorem dX10_target_5 : decode cX10_target 5 = .ok (.invokevirtual 137, 3) := by decide +kernel
theorem dX10_target_8 : decode cX10_target 8 = .ok (.ifCond .eq 25, 3) := by decide +kernel
theorem dX10_target_11 : decode cX10_target 11 = .ok (.iload_n 2, 1) := by decide +kernel
theorem dX10_target_12 : decode cX10_target 12 = .ok (.iconst 0, 1) := by decide +kernel
theorem dX10_target_13 : decode cX10_target 13 = .ok (.aload_n 0, 1) := by decide +kernel
theorem dX10_target_14 : decode cX10_target 14 = .ok (.getfield 10, 3) := by decide +kernel
theorem dX10_target_17 : decode cX10_target 17 = .ok (.getfield 191, 3) := by decide +kernel
theorem dX10_target_20 : decode cX10_target 20 = .ok (.iload_n 1, 1) := by decide +kernel
theorem dX10_target_21 : decode cX10_target 21 = .ok (.aaload, 1) := by decide +kernel
theorem dX10_target_22 : decode cX10_target 22 = .ok (.getfield 195, 3) := by decide +kernel
theorem dX10_target_25 : decode cX10_target 25 = .ok (.iconst 1, 1) := by decide +kernel
theorem dX10_target_26 : decode cX10_target 26 = .ok (.isub, 1) := by decide +kernel
theorem dX10_target_27 : decode cX10_target 27 = .ok (.invokestatic 58, 3) := by decide +kernel
theorem dX10_target_30 : decode cX10_target 30 = .ok (.ifCond .ne 5, 3) := by decide +kernel
theorem dX10_target_33 : decode cX10_target 33 = .ok (.iconst (-1), 1) := by decide +kernel
theorem dX10_target_34 : decode cX10_target 34 = .ok (.ireturn, 1) := by decide +kernel
theorem dX10_target_35 : decode cX10_target 35 = .ok (.aload_n 0, 1) := by decide +kernel
theorem dX10_target_36 : decode cX10_target 36 = .ok (.getfield 10, 3) := by decide +kernel
theorem dX10_target_39 : decode cX10_target 39 = .ok (.getfield 191, 3) := by decide +kernel
theorem dX10_target_42 : decode cX10_target 42 = .ok (.iload_n 1, 1) := by decide +kernel
theorem dX10_target_43 : decode cX10_target 43 = .ok (.aaload, 1) := by decide +kernel
theorem dX10_target_44 : decode cX10_target 44 = .ok (.getfield 200, 3) := by decide +kernel
theorem dX10_target_47 : decode cX10_target 47 = .ok (.iload_n 2, 1) := by decide +kernel
theorem dX10_target_48 : decode cX10_target 48 = .ok (.aaload, 1) := by decide +kernel
theorem dX10_target_49 : decode cX10_target 49 = .ok (.iload_n 3, 1) := by decide +kernel
theorem dX10_target_50 : decode cX10_target 50 = .ok (.invokevirtual 204, 3) := by decide +kernel
theorem dX10_target_53 : decode cX10_target 53 = .ok (.ireturn, 1) := by decide +kernel
theorem dX10_trace_0 : decode cX10_trace 0 = .ok (.iload_n 1, 1) := by decide +kernel
theorem dX10_trace_1 : decode cX10_trace 1 = .ok (.iconst 0, 1) := by decide +kernel
theorem dX10_trace_2 : decode cX10_trace 2 = .ok (.aload_n 0, 1) := by decide +kernel
theorem dX10_trace_3 : decode cX10_trace 3 = .ok (.getfield 10, 3) := by decide +kernel
theorem dX10_trace_6 : decode cX10_trace 6 = .ok (.getfield 207, 3) := by decide +kernel
theorem dX10_trace_9 : decode cX10_trace 9 = .ok (.getfield 211, 3) := by decide +kernel
theorem dX10_trace_12 : decode cX10_trace 12 = .ok (.iconst 1, 1) := by decide +kernel
theorem dX10_trace_13 : decode cX10_trace 13 = .ok (.isub, 1) := by decide +kernel
theorem dX10_trace_14 : decode cX10_trace 14 = .ok (.invokestatic 58, 3) := by decide +kernel
theorem dX10_trace_17 : decode cX10_trace 17 = .ok (.ifCond .ne 5, 3) := by decide +kernel
theorem dX10_trace_20 : decode cX10_trace 20 = .ok (.iconst (-1), 1) := by decide +kernel
theorem dX10_trace_21 : decode cX10_trace 21 = .ok (.ireturn, 1) := by decide +kernel
theorem dX10_trace_22 : decode cX10_trace 22 = .ok (.iload_n 2, 1) := by decide +kernel
theorem dX10_trace_23 : decode cX10_trace 23 = .ok (.iconst 0, 1) := by decide +kernel
theorem dX10_trace_24 : decode cX10_trace 24 = .ok (.iconst 3, 1) := by decide +kernel
theorem dX10_trace_25 : decode cX10_trace 25 = .ok (.invokestatic 58, 3) := by decide +kernel
theorem dX10_trace_28 : decode cX10_trace 28 = .ok (.ifCond .eq 20, 3) := by decide +kernel
theorem dX10_trace_31 : decode cX10_trace 31 = .ok (.aload_n 0, 1) := by decide +kernel
theorem dX10_trace_32 : decode cX10_trace 32 = .ok (.getfield 10, 3) := by decide +kernel
theorem dX10_trace_35 : decode cX10_trace 35 = .ok (.getfield 207, 3) := by decide +kernel
theorem dX10_trace_38 : decode cX10_trace 38 = .ok (.getfield 214, 3) := by decide +kernel
theorem dX10_trace_41 : decode cX10_trace 41 = .ok (.iload_n 1, 1) := by decide +kernel
theorem dX10_trace_42 : decode cX10_trace 42 = .ok (.aaload, 1) := by decide +kernel
theorem dX10_trace_43 : decode cX10_trace 43 = .ok (.iload_n 2, 1) := by decide +kernel
theorem dX10_trace_44 : decode cX10_trace 44 = .ok (.iaload, 1) := by decide +kernel
theorem dX10_trace_45 : decode cX10_trace 45 = .ok (.goto 5, 3) := by decide +kernel
theorem dX10_trace_48 : decode cX10_trace 48 = .ok (.bipush (-2), 2) := by decide +kernel
theorem dX10_trace_50 : decode cX10_trace 50 = .ok (.ireturn, 1) := by decide +kernel
theorem dX10_count_0 : decode cX10_count 0 = .ok (.iload_n 1, 1) := by decide +kernel
theorem dX10_count_1 : decode cX10_count 1 = .ok (.tableswitch 54 11 13 #[27, 35, 46], 27) := by decide +kernel
theorem dX10_count_28 : decode cX10_count 28 = .ok (.aload_n 0, 1) := by decide +kernel
theorem dX10_count_29 : decode cX10_count 29 = .ok (.getfield 28, 3) := by decide +kernel
theorem dX10_count_32 : decode cX10_count 32 = .ok (.getfield 218, 3) := by decide +kernel
theorem dX10_count_35 : decode cX10_count 35 = .ok (.ireturn, 1) := by decide +kernel
theorem dX10_count_36 : decode cX10_count 36 = .ok (.aload_n 0, 1) := by decide +kernel
theorem dX10_count_37 : decode cX10_count 37 = .ok (.getfield 10, 3) := by decide +kernel
theorem dX10_count_40 : decode cX10_count 40 = .ok (.getfield 207, 3) := by decide +kernel
theorem dX10_count_43 : decode cX10_count 43 = .ok (.getfield 211, 3) := by decide +kernel
theorem dX10_count_46 : decode cX10_count 46 = .ok (.ireturn, 1) := by decide +kernel
theorem dX10_count_47 : decode cX10_count 47 = .ok (.aload_n 0, 1) := by decide +kernel
theorem dX10_count_48 : decode cX10_count 48 = .ok (.getfield 35, 3) := by decide +kernel
theorem dX10_count_51 : decode cX10_count 51 = .ok (.getfield 112, 3) := by decide +kernel
theorem dX10_count_54 : decode cX10_count 54 = .ok (.ireturn, 1) := by decide +kernel
theorem dX10_count_55 : decode cX10_count 55 = .ok (.aload_n 0, 1) := by decide +kernel
theorem dX10_count_56 : decode cX10_count 56 = .ok (.getfield 10, 3) := by decide +kernel
theorem dX10_count_59 : decode cX10_count 59 = .ok (.iload_n 1, 1) := by decide +kernel
theorem dX10_count_60 : decode cX10_count 60 = .ok (.invokevirtual 219, 3) := by decide +kernel
theorem dX10_count_63 : decode cX10_count 63 = .ok (.ireturn, 1) := by decide +kernel
theorem dX10_print_0 : decode cX10_print 0 = .ok (.aload_n 0, 1) := by decide +kernel
theorem dX10_print_1 : decode cX10_print 1 = .ok (.getfield 10, 3) := by decide +kernel
theorem dX10_print_4 : decode cX10_print 4 = .ok (.iload_n 1, 1) := by decide +kernel
theorem dX10_print_5 : decode cX10_print 5 = .ok (.invokevirtual 137, 3) := by decide +kernel
theorem dX10_print_8 : decode cX10_print 8 = .ok (.ifCond .ne 5, 3) := by decide +kernel
theorem dX10_print_11 : decode cX10_print 11 = .ok (.iconst (-1), 1) := by decide +kernel
theorem dX10_print_12 : decode cX10_print 12 = .ok (.ireturn, 1) := by decide +kernel
theorem dX10_print_13 : decode cX10_print 13 = .ok (.aload_n 0, 1) := by decide +kernel
theorem dX10_print_14 : decode cX10_print 14 = .ok (.getfield 10, 3) := by decide +kernel
theorem dX10_print_17 : decode cX10_print 17 = .ok (.getfield 191, 3) := by decide +kernel
theorem dX10_print_20 : decode cX10_print 20 = .ok (.iload_n 1, 1) := by decide +kernel
theorem dX10_print_21 : decode cX10_print 21 = .ok (.aaload, 1) := by decide +kernel
theorem dX10_print_22 : decode cX10_print 22 = .ok (.aload_n 0, 1) := by decide +kernel
theorem dX10_print_23 : decode cX10_print 23 = .ok (.getfield 39, 3) := by decide +kernel
theorem dX10_print_26 : decode cX10_print 26 = .ok (.invokevirtual 220, 3) := by decide +kernel
theorem dX10_print_29 : decode cX10_print 29 = .ok (.aload_n 0, 1) := by decide +kernel
theorem dX10_print_30 : decode cX10_print 30 = .ok (.getfield 39, 3) := by decide +kernel
theorem dX10_print_33 : decode cX10_print 33 = .ok (.getfield 112, 3) := by decide +kernel
theorem dX10_print_36 : decode cX10_print 36 = .ok (.ireturn, 1) := by decide +kernel
theorem dX10_printed_0 : decode cX10_printed 0 = .ok (.aload_n 0, 1) := by decide +kernel
theorem dX10_printed_1 : decode cX10_printed 1 = .ok (.getfield 39, 3) := by decide +kernel
theorem dX10_printed_4 : decode cX10_printed 4 = .ok (.iload_n 1, 1) := by decide +kernel
theorem dX10_printed_5 : decode cX10_printed 5 = .ok (.invokevirtual 223, 3) := by decide +kernel
theorem dX10_printed_8 : decode cX10_printed 8 = .ok (.ireturn, 1) := by decide +kernel
theorem dX10_mark_0 : decode cX10_mark 0 = .ok (.aload_n 0, 1) := by decide +kernel
theorem dX10_mark_1 : decode cX10_mark 1 = .ok (.getfield 16, 3) := by decide +kernel
theorem dX10_mark_4 : decode cX10_mark 4 = .ok (.aload_n 0, 1) := by decide +kernel
theorem dX10_mark_5 : decode cX10_mark 5 = .ok (.getfield 10, 3) := by decide +kernel
theorem dX10_mark_8 : decode cX10_mark 8 = .ok (.invokevirtual 165, 3) := by decide +kernel
theorem dX10_mark_11 : decode cX10_mark 11 = .ok (.aload_n 0, 1) := by decide +kernel
theorem dX10_mark_12 : decode cX10_mark 12 = .ok (.getfield 28, 3) := by decide +kernel
theorem dX10_mark_15 : decode cX10_mark 15 = .ok (.invokevirtual 226, 3) := by decide +kernel
theorem dX10_mark_18 : decode cX10_mark 18 = .ok (.aload_n 0, 1) := by decide +kernel
theorem dX10_mark_19 : decode cX10_mark 19 = .ok (.getfield 10, 3) := by decide +kernel
theorem dX10_mark_22 : decode cX10_mark 22 = .ok (.getfield 62, 3) := by decide +kernel
theorem dX10_mark_25 : decode cX10_mark 25 = .ok (.ireturn, 1) := by decide +kernel
theorem dX10_play_0 : decode cX10_play 0 = .ok (.aload_n 0, 1) := by decide +kernel
theorem dX10_play_1 : decode cX10_play 1 = .ok (.iload_n 1, 1) := by decide +kernel
theorem dX10_play_2 : decode cX10_play 2 = .ok (.invokevirtual 229, 3) := by decide +kernel
theorem dX10_play_5 : decode cX10_play 5 = .ok (.istore_n 2, 1) := by decide +kernel
theorem dX10_play_6 : decode cX10_play 6 = .ok (.iload_n 2, 1) := by decide +kernel
theorem dX10_play_7 : decode cX10_play 7 = .ok (.ifCond .eq 5, 3) := by decide +kernel
theorem dX10_play_10 : decode cX10_play 10 = .ok (.iload_n 2, 1) := by decide +kernel
theorem dX10_play_11 : decode cX10_play 11 = .ok (.ireturn, 1) := by decide +kernel
theorem dX10_play_12 : decode cX10_play 12 = .ok (.aload_n 0, 1) := by decide +kernel
theorem dX10_play_13 : decode cX10_play 13 = .ok (.iload_n 1, 1) := by decide +kernel
theorem dX10_play_14 : decode cX10_play 14 = .ok (.invokevirtual 232, 3) := by decide +kernel
theorem dX10_play_17 : decode cX10_play 17 = .ok (.aload_n 0, 1) := by decide +kernel
theorem dX10_play_18 : decode cX10_play 18 = .ok (.getfield 28, 3) := by decide +kernel
theorem dX10_play_21 : decode cX10_play 21 = .ok (.invokevirtual 235, 3) := by decide +kernel
theorem dX10_play_24 : decode cX10_play 24 = .ok (.ireturn, 1) := by decide +kernel
theorem dX10_answeredIf_0 : decode cX10_answeredIf 0 = .ok (.aload_n 0, 1) := by decide +kernel
theorem dX10_answeredIf_1 : decode cX10_answeredIf 1 = .ok (.iload_n 1, 1) := by decide +kernel
theorem dX10_answeredIf_2 : decode cX10_answeredIf 2 = .ok (.invokevirtual 229, 3) := by decide +kernel
theorem dX10_answeredIf_5 : decode cX10_answeredIf 5 = .ok (.istore_n 2, 1) := by decide +kernel
theorem dX10_answeredIf_6 : decode cX10_answeredIf 6 = .ok (.iload_n 2, 1) := by decide +kernel
theorem dX10_answeredIf_7 : decode cX10_answeredIf 7 = .ok (.ifCond .eq 5, 3) := by decide +kernel
theorem dX10_answeredIf_10 : decode cX10_answeredIf 10 = .ok (.iload_n 2, 1) := by decide +kernel
theorem dX10_answeredIf_11 : decode cX10_answeredIf 11 = .ok (.ireturn, 1) := by decide +kernel
theorem dX10_answeredIf_12 : decode cX10_answeredIf 12 = .ok (.aload_n 0, 1) := by decide +kernel
theorem dX10_answeredIf_13 : decode cX10_answeredIf 13 = .ok (.iload_n 1, 1) := by decide +kernel
theorem dX10_answeredIf_14 : decode cX10_answeredIf 14 = .ok (.invokevirtual 232, 3) := by decide +kernel
theorem dX10_answeredIf_17 : decode cX10_answeredIf 17 = .ok (.aload_n 0, 1) := by decide +kernel
theorem dX10_answeredIf_18 : decode cX10_answeredIf 18 = .ok (.getfield 28, 3) := by decide +kernel
theorem dX10_answeredIf_21 : decode cX10_answeredIf 21 = .ok (.invokevirtual 238, 3) := by decide +kernel
theorem dX10_answeredIf_24 : decode cX10_answeredIf 24 = .ok (.ireturn, 1) := by decide +kernel
theorem dX10_save_0 : decode cX10_save 0 = .ok (.aload_n 0, 1) := by decide +kernel
theorem dX10_save_1 : decode cX10_save 1 = .ok (.getfield 19, 3) := by decide +kernel
theorem dX10_save_4 : decode cX10_save 4 = .ok (.aload_n 0, 1) := by decide +kernel
theorem dX10_save_5 : decode cX10_save 5 = .ok (.getfield 10, 3) := by decide +kernel
theorem dX10_save_8 : decode cX10_save 8 = .ok (.invokevirtual 165, 3) := by decide +kernel
theorem dX10_save_11 : decode cX10_save 11 = .ok (.aload_n 0, 1) := by decide +kernel
theorem dX10_save_12 : decode cX10_save 12 = .ok (.iconst 1, 1) := by decide +kernel
theorem dX10_save_13 : decode cX10_save 13 = .ok (.putfield 241, 3) := by decide +kernel
theorem dX10_save_16 : decode cX10_save 16 = .ok (.aload_n 0, 1) := by decide +kernel
theorem dX10_save_17 : decode cX10_save 17 = .ok (.getfield 10, 3) := by decide +kernel
theorem dX10_save_20 : decode cX10_save 20 = .ok (.getfield 62, 3) := by decide +kernel
theorem dX10_save_23 : decode cX10_save 23 = .ok (.ireturn, 1) := by decide +kernel
theorem dX10_restore_0 : decode cX10_restore 0 = .ok (.aload_n 0, 1) := by decide +kernel
theorem dX10_restore_1 : decode cX10_restore 1 = .ok (.getfield 241, 3) := by decide +kernel
theorem dX10_restore_4 : decode cX10_restore 4 = .ok (.ifCond .ne 5, 3) := by decide +kernel
theorem dX10_restore_7 : decode cX10_restore 7 = .ok (.iconst (-1), 1) := by decide +kernel
theorem dX10_restore_8 : decode cX10_restore 8 = .ok (.ireturn, 1) := by decide +kernel
theorem dX10_restore_9 : decode cX10_restore 9 = .ok (.aload_n 0, 1) := by decide +kernel
theorem dX10_restore_10 : decode cX10_restore 10 = .ok (.getfield 28, 3) := by decide +kernel
theorem dX10_restore_13 : decode cX10_restore 13 = .ok (.invokevirtual 66, 3) := by decide +kernel
theorem dX10_restore_16 : decode cX10_restore 16 = .ok (.aload_n 0, 1) := by decide +kernel
theorem dX10_restore_17 : decode cX10_restore 17 = .ok (.getfield 10, 3) := by decide +kernel
theorem dX10_restore_20 : decode cX10_restore 20 = .ok (.aload_n 0, 1) := by decide +kernel
theorem dX10_restore_21 : decode cX10_restore 21 = .ok (.getfield 19, 3) := by decide +kernel
theorem dX10_restore_24 : decode cX10_restore 24 = .ok (.invokevirtual 165, 3) := by decide +kernel
theorem dX10_restore_27 : decode cX10_restore 27 = .ok (.aload_n 0, 1) := by decide +kernel
theorem dX10_restore_28 : decode cX10_restore 28 = .ok (.getfield 10, 3) := by decide +kernel
theorem dX10_restore_31 : decode cX10_restore 31 = .ok (.getfield 207, 3) := by decide +kernel
theorem dX10_restore_34 : decode cX10_restore 34 = .ok (.iconst 0, 1) := by decide +kernel
theorem dX10_restore_35 : decode cX10_restore 35 = .ok (.putfield 211, 3) := by decide +kernel
theorem dX10_restore_38 : decode cX10_restore 38 = .ok (.aload_n 0, 1) := by decide +kernel
theorem dX10_restore_39 : decode cX10_restore 39 = .ok (.getfield 10, 3) := by decide +kernel
theorem dX10_restore_42 : decode cX10_restore 42 = .ok (.getfield 62, 3) := by decide +kernel
theorem dX10_restore_45 : decode cX10_restore 45 = .ok (.ireturn, 1) := by decide +kernel
theorem dX10_requestError_0 : decode cX10_requestError 0 = .ok (.iload_n 1, 1) := by decide +kernel
theorem dX10_requestError_1 : decode cX10_requestError 1 = .ok (.invokestatic 184, 3) := by decide +kernel
theorem dX10_requestError_4 : decode cX10_requestError 4 = .ok (.ifCond .eq 10, 3) := by decide +kernel
theorem dX10_requestError_7 : decode cX10_requestError 7 = .ok (.iload_n 2, 1) := by decide +kernel
theorem dX10_requestError_8 : decode cX10_requestError 8 = .ok (.invokestatic 55, 3) := by decide +kernel
theorem dX10_requestError_11 : decode cX10_requestError 11 = .ok (.ifCond .ne 6, 3) := by decide +kernel
theorem dX10_requestError_14 : decode cX10_requestError 14 = .ok (.bipush (-2), 2) := by decide +kernel
theorem dX10_requestError_16 : decode cX10_requestError 16 = .ok (.ireturn, 1) := by decide +kernel
theorem dX10_requestError_17 : decode cX10_requestError 17 = .ok (.aload_n 0, 1) := by decide +kernel
theorem dX10_requestError_18 : decode cX10_requestError 18 = .ok (.getfield 35, 3) := by decide +kernel
theorem dX10_requestError_21 : decode cX10_requestError 21 = .ok (.invokevirtual 245, 3) := by decide +kernel
theorem dX10_requestError_24 : decode cX10_requestError 24 = .ok (.ifCond .eq 7, 3) := by decide +kernel
theorem dX10_requestError_27 : decode cX10_requestError 27 = .ok (.iconst 0, 1) := by decide +kernel
theorem dX10_requestError_28 : decode cX10_requestError 28 = .ok (.goto 5, 3) := by decide +kernel
theorem dX10_requestError_31 : decode cX10_requestError 31 = .ok (.bipush (-7), 2) := by decide +kernel
theorem dX10_requestError_33 : decode cX10_requestError 33 = .ok (.ireturn, 1) := by decide +kernel
theorem dX10_playError_0 : decode cX10_playError 0 = .ok (.iload_n 1, 1) := by decide +kernel
theorem dX10_playError_1 : decode cX10_playError 1 = .ok (.iconst 0, 1) := by decide +kernel
theorem dX10_playError_2 : decode cX10_playError 2 = .ok (.iconst 4, 1) := by decide +kernel
theorem dX10_playError_3 : decode cX10_playError 3 = .ok (.invokestatic 58, 3) := by decide +kernel
theorem dX10_playError_6 : decode cX10_playError 6 = .ok (.ifCond .ne 6, 3) := by decide +kernel
theorem dX10_playError_9 : decode cX10_playError 9 = .ok (.bipush (-2), 2) := by decide +kernel
theorem dX10_playError_11 : decode cX10_playError 11 = .ok (.ireturn, 1) := by decide +kernel
theorem dX10_playError_12 : decode cX10_playError 12 = .ok (.aload_n 0, 1) := by decide +kernel
theorem dX10_playError_13 : decode cX10_playError 13 = .ok (.getfield 28, 3) := by decide +kernel
theorem dX10_playError_16 : decode cX10_playError 16 = .ok (.getfield 249, 3) := by decide +kernel
theorem dX10_playError_19 : decode cX10_playError 19 = .ok (.ifCond .eq 7, 3) := by decide +kernel
theorem dX10_playError_22 : decode cX10_playError 22 = .ok (.iconst 0, 1) := by decide +kernel
theorem dX10_playError_23 : decode cX10_playError 23 = .ok (.goto 4, 3) := by decide +kernel
theorem dX10_playError_26 : decode cX10_playError 26 = .ok (.iconst (-1), 1) := by decide +kernel
theorem dX10_playError_27 : decode cX10_playError 27 = .ok (.ireturn, 1) := by decide +kernel
theorem dX10_playAgain_0 : decode cX10_playAgain 0 = .ok (.aload_n 0, 1) := by decide +kernel
theorem dX10_playAgain_1 : decode cX10_playAgain 1 = .ok (.getfield 22, 3) := by decide +kernel
theorem dX10_playAgain_4 : decode cX10_playAgain 4 = .ok (.aload_n 0, 1) := by decide +kernel
theorem dX10_playAgain_5 : decode cX10_playAgain 5 = .ok (.getfield 16, 3) := by decide +kernel
theorem dX10_playAgain_8 : decode cX10_playAgain 8 = .ok (.invokevirtual 165, 3) := by decide +kernel
theorem dX10_playAgain_11 : decode cX10_playAgain 11 = .ok (.aload_n 0, 1) := by decide +kernel
theorem dX10_playAgain_12 : decode cX10_playAgain 12 = .ok (.getfield 22, 3) := by decide +kernel
theorem dX10_playAgain_15 : decode cX10_playAgain 15 = .ok (.iload_n 1, 1) := by decide +kernel
theorem dX10_playAgain_16 : decode cX10_playAgain 16 = .ok (.invokevirtual 252, 3) := by decide +kernel
theorem dX10_playAgain_19 : decode cX10_playAgain 19 = .ok (.iconst 0, 1) := by decide +kernel
theorem dX10_playAgain_20 : decode cX10_playAgain 20 = .ok (.istore_n 2, 1) := by decide +kernel
theorem dX10_playAgain_21 : decode cX10_playAgain 21 = .ok (.iload_n 2, 1) := by decide +kernel
theorem dX10_playAgain_22 : decode cX10_playAgain 22 = .ok (.aload_n 0, 1) := by decide +kernel
theorem dX10_playAgain_23 : decode cX10_playAgain 23 = .ok (.getfield 28, 3) := by decide +kernel
theorem dX10_playAgain_26 : decode cX10_playAgain 26 = .ok (.getfield 218, 3) := by decide +kernel
theorem dX10_playAgain_29 : decode cX10_playAgain 29 = .ok (.if_icmp .ge 76, 3) := by decide +kernel
theorem dX10_playAgain_32 : decode cX10_playAgain 32 = .ok (.aload_n 0, 1) := by decide +kernel
theorem dX10_playAgain_33 : decode cX10_playAgain 33 = .ok (.getfield 28, 3) := by decide +kernel
theorem dX10_playAgain_36 : decode cX10_playAgain 36 = .ok (.getfield 255, 3) := by decide +kernel
theorem dX10_playAgain_39 : decode cX10_playAgain 39 = .ok (.iload_n 2, 1) := by decide +kernel
theorem dX10_playAgain_40 : decode cX10_playAgain 40 = .ok (.iaload, 1) := by decide +kernel
theorem dX10_playAgain_41 : decode cX10_playAgain 41 = .ok (.bipush (-2), 2) := by decide +kernel
theorem dX10_playAgain_43 : decode cX10_playAgain 43 = .ok (.if_icmp .ne 13, 3) := by decide +kernel
theorem dX10_playAgain_46 : decode cX10_playAgain 46 = .ok (.aload_n 0, 1) := by decide +kernel
theorem dX10_playAgain_47 : decode cX10_playAgain 47 = .ok (.getfield 22, 3) := by decide +kernel
theorem dX10_playAgain_50 : decode cX10_playAgain 50 = .ok (.invokevirtual 169, 3) := by decide +kernel
theorem dX10_playAgain_53 : decode cX10_playAgain 53 = .ok (.goto 46, 3) := by decide +kernel
theorem dX10_playAgain_56 : decode cX10_playAgain 56 = .ok (.aload_n 0, 1) := by decide +kernel
theorem dX10_playAgain_57 : decode cX10_playAgain 57 = .ok (.getfield 28, 3) := by decide +kernel
theorem dX10_playAgain_60 : decode cX10_playAgain 60 = .ok (.getfield 257, 3) := by decide +kernel
theorem dX10_playAgain_63 : decode cX10_playAgain 63 = .ok (.iload_n 2, 1) := by decide +kernel
theorem dX10_playAgain_64 : decode cX10_playAgain 64 = .ok (.aload_n 0, 1) := by decide +kernel
theorem dX10_playAgain_65 : decode cX10_playAgain 65 = .ok (.getfield 22, 3) := by decide +kernel
theorem dX10_playAgain_68 : decode cX10_playAgain 68 = .ok (.aload_n 0, 1) := by decide +kernel
theorem dX10_playAgain_69 : decode cX10_playAgain 69 = .ok (.getfield 28, 3) := by decide +kernel
theorem dX10_playAgain_72 : decode cX10_playAgain 72 = .ok (.getfield 255, 3) := by decide +kernel
theorem dX10_playAgain_75 : decode cX10_playAgain 75 = .ok (.iload_n 2, 1) := by decide +kernel
theorem dX10_playAgain_76 : decode cX10_playAgain 76 = .ok (.iaload, 1) := by decide +kernel
theorem dX10_playAgain_77 : decode cX10_playAgain 77 = .ok (.aload_n 0, 1) := by decide +kernel
theorem dX10_playAgain_78 : decode cX10_playAgain 78 = .ok (.getfield 28, 3) := by decide +kernel
theorem dX10_playAgain_81 : decode cX10_playAgain 81 = .ok (.getfield 260, 3) := by decide +kernel
theorem dX10_playAgain_84 : decode cX10_playAgain 84 = .ok (.iload_n 2, 1) := by decide +kernel
theorem dX10_playAgain_85 : decode cX10_playAgain 85 = .ok (.iaload, 1) := by decide +kernel
theorem dX10_playAgain_86 : decode cX10_playAgain 86 = .ok (.aload_n 0, 1) := by decide +kernel
theorem dX10_playAgain_87 : decode cX10_playAgain 87 = .ok (.getfield 28, 3) := by decide +kernel
theorem dX10_playAgain_90 : decode cX10_playAgain 90 = .ok (.getfield 263, 3) := by decide +kernel
theorem dX10_playAgain_93 : decode cX10_playAgain 93 = .ok (.iload_n 2, 1) := by decide +kernel
theorem dX10_playAgain_94 : decode cX10_playAgain 94 = .ok (.iaload, 1) := by decide +kernel
theorem dX10_playAgain_95 : decode cX10_playAgain 95 = .ok (.invokevirtual 158, 3) := by decide +kernel
theorem dX10_playAgain_98 : decode cX10_playAgain 98 = .ok (.iastore, 1) := by decide +kernel
theorem dX10_playAgain_99 : decode cX10_playAgain 99 = .ok (.iinc 2 1, 3) := by decide +kernel
theorem dX10_playAgain_102 : decode cX10_playAgain 102 = .ok (.goto (-81), 3) := by decide +kernel
theorem dX10_playAgain_105 : decode cX10_playAgain 105 = .ok (.return_, 1) := by decide +kernel
theorem dX10_isWithin_0 : decode cX10_isWithin 0 = .ok (.iload_n 0, 1) := by decide +kernel
theorem dX10_isWithin_1 : decode cX10_isWithin 1 = .ok (.iload_n 1, 1) := by decide +kernel
theorem dX10_isWithin_2 : decode cX10_isWithin 2 = .ok (.if_icmp .lt 12, 3) := by decide +kernel
theorem dX10_isWithin_5 : decode cX10_isWithin 5 = .ok (.iload_n 0, 1) := by decide +kernel
theorem dX10_isWithin_6 : decode cX10_isWithin 6 = .ok (.iload_n 2, 1) := by decide +kernel
theorem dX10_isWithin_7 : decode cX10_isWithin 7 = .ok (.if_icmp .gt 7, 3) := by decide +kernel
theorem dX10_isWithin_10 : decode cX10_isWithin 10 = .ok (.iconst 1, 1) := by decide +kernel
theorem dX10_isWithin_11 : decode cX10_isWithin 11 = .ok (.goto 4, 3) := by decide +kernel
theorem dX10_isWithin_14 : decode cX10_isWithin 14 = .ok (.iconst 0, 1) := by decide +kernel
theorem dX10_isWithin_15 : decode cX10_isWithin 15 = .ok (.ireturn, 1) := by decide +kernel
theorem dX10_isService_0 : decode cX10_isService 0 = .ok (.iload_n 0, 1) := by decide +kernel
theorem dX10_isService_1 : decode cX10_isService 1 = .ok (.iconst 0, 1) := by decide +kernel
theorem dX10_isService_2 : decode cX10_isService 2 = .ok (.iconst 3, 1) := by decide +kernel
theorem dX10_isService_3 : decode cX10_isService 3 = .ok (.invokestatic 58, 3) := by decide +kernel
theorem dX10_isService_6 : decode cX10_isService 6 = .ok (.ireturn, 1) := by decide +kernel
theorem dX10_isZone_0 : decode cX10_isZone 0 = .ok (.iload_n 0, 1) := by decide +kernel
theorem dX10_isZone_1 : decode cX10_isZone 1 = .ok (.iconst 0, 1) := by decide +kernel
theorem dX10_isZone_2 : decode cX10_isZone 2 = .ok (.iconst 2, 1) := by decide +kernel
theorem dX10_isZone_3 : decode cX10_isZone 3 = .ok (.invokestatic 58, 3) := by decide +kernel
theorem dX10_isZone_6 : decode cX10_isZone 6 = .ok (.ireturn, 1) := by decide +kernel
theorem dX10_isHeader_0 : decode cX10_isHeader 0 = .ok (.iload_n 0, 1) := by decide +kernel
theorem dX10_isHeader_1 : decode cX10_isHeader 1 = .ok (.iconst 0, 1) := by decide +kernel
theorem dX10_isHeader_2 : decode cX10_isHeader 2 = .ok (.bipush 9, 2) := by decide +kernel
theorem dX10_isHeader_4 : decode cX10_isHeader 4 = .ok (.invokestatic 58, 3) := by decide +kernel
theorem dX10_isHeader_7 : decode cX10_isHeader 7 = .ok (.ireturn, 1) := by decide +kernel
theorem dX10_isPathSign_0 : decode cX10_isPathSign 0 = .ok (.iload_n 0, 1) := by decide +kernel
theorem dX10_isPathSign_1 : decode cX10_isPathSign 1 = .ok (.bipush 47, 2) := by decide +kernel
theorem dX10_isPathSign_3 : decode cX10_isPathSign 3 = .ok (.if_icmp .eq 14, 3) := by decide +kernel
theorem dX10_isPathSign_6 : decode cX10_isPathSign 6 = .ok (.iload_n 0, 1) := by decide +kernel
theorem dX10_isPathSign_7 : decode cX10_isPathSign 7 = .ok (.bipush 97, 2) := by decide +kernel
theorem dX10_isPathSign_9 : decode cX10_isPathSign 9 = .ok (.bipush 122, 2) := by decide +kernel
theorem dX10_isPathSign_11 : decode cX10_isPathSign 11 = .ok (.invokestatic 58, 3) := by decide +kernel
theorem dX10_isPathSign_14 : decode cX10_isPathSign 14 = .ok (.ifCond .eq 7, 3) := by decide +kernel
theorem dX10_isPathSign_17 : decode cX10_isPathSign 17 = .ok (.iconst 1, 1) := by decide +kernel
theorem dX10_isPathSign_18 : decode cX10_isPathSign 18 = .ok (.goto 4, 3) := by decide +kernel
theorem dX10_isPathSign_21 : decode cX10_isPathSign 21 = .ok (.iconst 0, 1) := by decide +kernel
theorem dX10_isPathSign_22 : decode cX10_isPathSign 22 = .ok (.ireturn, 1) := by decide +kernel
theorem dX10_succeeds_0 : decode cX10_succeeds 0 = .ok (.iload_n 0, 1) := by decide +kernel
theorem dX10_succeeds_1 : decode cX10_succeeds 1 = .ok (.iload_n 1, 1) := by decide +kernel
theorem dX10_succeeds_2 : decode cX10_succeeds 2 = .ok (.bipush 7, 2) := by decide +kernel
theorem dX10_succeeds_4 : decode cX10_succeeds 4 = .ok (.iand, 1) := by decide +kernel
theorem dX10_succeeds_5 : decode cX10_succeeds 5 = .ok (.ishr, 1) := by decide +kernel
theorem dX10_succeeds_6 : decode cX10_succeeds 6 = .ok (.iconst 1, 1) := by decide +kernel
theorem dX10_succeeds_7 : decode cX10_succeeds 7 = .ok (.iand, 1) := by decide +kernel
theorem dX10_succeeds_8 : decode cX10_succeeds 8 = .ok (.iconst 1, 1) := by decide +kernel
theorem dX10_succeeds_9 : decode cX10_succeeds 9 = .ok (.if_icmp .ne 7, 3) := by decide +kernel
theorem dX10_succeeds_12 : decode cX10_succeeds 12 = .ok (.iconst 1, 1) := by decide +kernel
theorem dX10_succeeds_13 : decode cX10_succeeds 13 = .ok (.goto 4, 3) := by decide +kernel
theorem dX10_succeeds_16 : decode cX10_succeeds 16 = .ok (.iconst 0, 1) := by decide +kernel
theorem dX10_succeeds_17 : decode cX10_succeeds 17 = .ok (.ireturn, 1) := by decide +kernel
theorem dJ9_abs_0f7a4_0 : decode cJ9_abs_0f7a4 0 = .ok (.iload_n 0, 1) := by decide +kernel
theorem dJ9_abs_0f7a4_1 : decode cJ9_abs_0f7a4 1 = .ok (.ifCond .ge 8, 3) := by decide +kernel
theorem dJ9_abs_0f7a4_4 : decode cJ9_abs_0f7a4 4 = .ok (.iload_n 0, 1) := by decide +kernel
theorem dJ9_abs_0f7a4_5 : decode cJ9_abs_0f7a4 5 = .ok (.ineg, 1) := by decide +kernel
theorem dJ9_abs_0f7a4_6 : decode cJ9_abs_0f7a4 6 = .ok (.goto 4, 3) := by decide +kernel
theorem dJ9_abs_0f7a4_9 : decode cJ9_abs_0f7a4 9 = .ok (.iload_n 0, 1) := by decide +kernel
theorem dJ9_abs_0f7a4_10 : decode cJ9_abs_0f7a4 10 = .ok (.ireturn, 1) := by decide +kernel
theorem dJ9_min_7cf53_0 : decode cJ9_min_7cf53 0 = .ok (.iload_n 0, 1) := by decide +kernel
theorem dJ9_min_7cf53_1 : decode cJ9_min_7cf53 1 = .ok (.iload_n 1, 1) := by decide +kernel
theorem dJ9_min_7cf53_2 : decode cJ9_min_7cf53 2 = .ok (.if_icmp .gt 7, 3) := by decide +kernel
theorem dJ9_min_7cf53_5 : decode cJ9_min_7cf53 5 = .ok (.iload_n 0, 1) := by decide +kernel
theorem dJ9_min_7cf53_6 : decode cJ9_min_7cf53 6 = .ok (.goto 4, 3) := by decide +kernel
theorem dJ9_min_7cf53_9 : decode cJ9_min_7cf53 9 = .ok (.iload_n 1, 1) := by decide +kernel
theorem dJ9_min_7cf53_10 : decode cJ9_min_7cf53 10 = .ok (.ireturn, 1) := by decide +kernel
end
section
theorem dX11_init_0 : decode cX11_init 0 = .ok (.aload_n 0, 1) := by decide +kernel
theorem dX11_init_1 : decode cX11_init 1 = .ok (.invokespecial 1, 3) := by decide +kernel
theorem dX11_init_4 : decode cX11_init 4 = .ok (.aload_n 0, 1) := by decide +kernel
theorem dX11_init_5 : decode cX11_init 5 = .ok (.sipush 723, 3) := by decide +kernel
theorem dX11_init_8 : decode cX11_init 8 = .ok (.newarray .int, 2) := by decide +kernel
theorem dX11_init_10 : decode cX11_init 10 = .ok (.putfield 9, 3) := by decide +kernel
theorem dX11_init_13 : decode cX11_init 13 = .ok (.aload_n 0, 1) := by decide +kernel
theorem dX11_init_14 : decode cX11_init 14 = .ok (.sipush 723, 3) := by decide +kernel
theorem dX11_init_17 : decode cX11_init 17 = .ok (.newarray .int, 2) := by decide +kernel
theorem dX11_init_19 : decode cX11_init 19 = .ok (.putfield 13, 3) := by decide +kernel
theorem dX11_init_22 : decode cX11_init 22 = .ok (.aload_n 0, 1) := by decide +kernel
theorem dX11_init_23 : decode cX11_init 23 = .ok (.sipush 723, 3) := by decide +kernel
theorem dX11_init_26 : decode cX11_init 26 = .ok (.newarray .int, 2) := by decide +kernel
theorem dX11_init_28 : decode cX11_init 28 = .ok (.putfield 16, 3) := by decide +kernel
theorem dX11_init_31 : decode cX11_init 31 = .ok (.aload_n 0, 1) := by decide +kernel
theorem dX11_init_32 : decode cX11_init 32 = .ok (.sipush 723, 3) := by decide +kernel
theorem dX11_init_35 : decode cX11_init 35 = .ok (.newarray .int, 2) := by decide +kernel
theorem dX11_init_37 : decode cX11_init 37 = .ok (.putfield 19, 3) := by decide +kernel
theorem dX11_init_40 : decode cX11_init 40 = .ok (.aload_n 0, 1) := by decide +kernel
theorem dX11_init_41 : decode cX11_init 41 = .ok (.bipush 40, 2) := by decide +kernel
theorem dX11_init_43 : decode cX11_init 43 = .ok (.newarray .int, 2) := by decide +kernel
theorem dX11_init_45 : decode cX11_init 45 = .ok (.putfield 22, 3) := by decide +kernel
theorem dX11_init_48 : decode cX11_init 48 = .ok (.aload_n 0, 1) := by decide +kernel
theorem dX11_init_49 : decode cX11_init 49 = .ok (.sipush 240, 3) := by decide +kernel
theorem dX11_init_52 : decode cX11_init 52 = .ok (.newarray .int, 2) := by decide +kernel
theorem dX11_init_54 : decode cX11_init 54 = .ok (.putfield 25, 3) := by decide +kernel
theorem dX11_init_57 : decode cX11_init 57 = .ok (.aload_n 0, 1) := by decide +kernel
theorem dX11_init_58 : decode cX11_init 58 = .ok (.sipush 2400, 3) := by decide +kernel
theorem dX11_init_61 : decode cX11_init 61 = .ok (.newarray .int, 2) := by decide +kernel
theorem dX11_init_63 : decode cX11_init 63 = .ok (.putfield 28, 3) := by decide +kernel
theorem dX11_init_66 : decode cX11_init 66 = .ok (.aload_n 0, 1) := by decide +kernel
theorem dX11_init_67 : decode cX11_init 67 = .ok (.bipush 80, 2) := by decide +kernel
theorem dX11_init_69 : decode cX11_init 69 = .ok (.newarray .int, 2) := by decide +kernel
theorem dX11_init_71 : decode cX11_init 71 = .ok (.putfield 31, 3) := by decide +kernel
theorem dX11_init_74 : decode cX11_init 74 = .ok (.aload_n 0, 1) := by decide +kernel
theorem dX11_init_75 : decode cX11_init 75 = .ok (.bipush 58, 2) := by decide +kernel
theorem dX11_init_77 : decode cX11_init 77 = .ok (.newarray .int, 2) := by decide +kernel
theorem dX11_init_79 : decode cX11_init 79 = .ok (.putfield 34, 3) := by decide +kernel
theorem dX11_init_82 : decode cX11_init 82 = .ok (.aload_n 0, 1) := by decide +kernel
theorem dX11_init_83 : decode cX11_init 83 = .ok (.iconst (-1), 1) := by decide +kernel
theorem dX11_init_84 : decode cX11_init 84 = .ok (.putfield 37, 3) := by decide +kernel
theorem dX11_init_87 : decode cX11_init 87 = .ok (.aload_n 0, 1) := by decide +kernel
theorem dX11_init_88 : decode cX11_init 88 = .ok (.bipush 40, 2) := by decide +kernel
theorem dX11_init_90 : decode cX11_init 90 = .ok (.newarray .int, 2) := by decide +kernel
theorem dX11_init_92 : decode cX11_init 92 = .ok (.putfield 41, 3) := by decide +kernel
theorem dX11_init_95 : decode cX11_init 95 = .ok (.aload_n 0, 1) := by decide +kernel
theorem dX11_init_96 : decode cX11_init 96 = .ok (.getfield 9, 3) := by decide +kernel
theorem dX11_init_99 : decode cX11_init 99 = .ok (.sipush 229, 3) := by decide +kernel
theorem dX11_init_102 : decode cX11_init 102 = .ok (.bipush 70, 2) := by decide +kernel
theorem dX11_init_104 : decode cX11_init 104 = .ok (.iastore, 1) := by decide +kernel
theorem dX11_init_105 : decode cX11_init 105 = .ok (.iconst 0, 1) := by decide +kernel
theorem dX11_init_106 : decode cX11_init 106 = .ok (.istore_n 1, 1) := by decide +kernel
theorem dX11_init_107 : decode cX11_init 107 = .ok (.iload_n 1, 1) := by decide +kernel
theorem dX11_init_108 : decode cX11_init 108 = .ok (.iconst 4, 1) := by decide +kernel
theorem dX11_init_109 : decode cX11_init 109 = .ok (.if_icmp .ge 93, 3) := by decide +kernel
theorem dX11_init_112 : decode cX11_init 112 = .ok (.sipush 145, 3) := by decide +kernel
theorem dX11_init_115 : decode cX11_init 115 = .ok (.bipush 21, 2) := by decide +kernel
theorem dX11_init_117 : decode cX11_init 117 = .ok (.iload_n 1, 1) := by decide +kernel
theorem dX11_init_118 : decode cX11_init 118 = .ok (.imul, 1) := by decide +kernel
theorem dX11_init_119 : decode cX11_init 119 = .ok (.iadd, 1) := by decide +kernel
theorem dX11_init_120 : decode cX11_init 120 = .ok (.istore_n 2, 1) := by decide +kernel
theorem dX11_init_121 : decode cX11_init 121 = .ok (.aload_n 0, 1) := by decide +kernel
theorem dX11_init_122 : decode cX11_init 122 = .ok (.getfield 9, 3) := by decide +kernel
theorem dX11_init_125 : decode cX11_init 125 = .ok (.iload_n 2, 1) := by decide +kernel
theorem dX11_init_126 : decode cX11_init 126 = .ok (.iconst 1, 1) := by decide +kernel
theorem dX11_init_127 : decode cX11_init 127 = .ok (.iadd, 1) := by decide +kernel
theorem dX11_init_128 : decode cX11_init 128 = .ok (.iconst 3, 1) := by decide +kernel
theorem dX11_init_129 : decode cX11_init 129 = .ok (.iastore, 1) := by decide +kernel
theorem dX11_init_130 : decode cX11_init 130 = .ok (.aload_n 0, 1) := by decide +kernel
theorem dX11_init_131 : decode cX11_init 131 = .ok (.getfield 9, 3) := by decide +kernel
theorem dX11_init_134 : decode cX11_init 134 = .ok (.iload_n 2, 1) := by decide +kernel
theorem dX11_init_135 : decode cX11_init 135 = .ok (.iconst 2, 1) := by decide +kernel
theorem dX11_init_136 : decode cX11_init 136 = .ok (.iadd, 1) := by decide +kernel
theorem dX11_init_137 : decode cX11_init 137 = .ok (.iconst 5, 1) := by decide +kernel
theorem dX11_init_138 : decode cX11_init 138 = .ok (.iastore, 1) := by decide +kernel
theorem dX11_init_139 : decode cX11_init 139 = .ok (.aload_n 0, 1) := by decide +kernel
theorem dX11_init_140 : decode cX11_init 140 = .ok (.getfield 9, 3) := by decide +kernel
theorem dX11_init_143 : decode cX11_init 143 = .ok (.iload_n 2, 1) := by decide +kernel
theorem dX11_init_144 : decode cX11_init 144 = .ok (.iconst 3, 1) := by decide +kernel
theorem dX11_init_145 : decode cX11_init 145 = .ok (.iadd, 1) := by decide +kernel
theorem dX11_init_146 : decode cX11_init 146 = .ok (.bipush 50, 2) := by decide +kernel
theorem dX11_init_148 : decode cX11_init 148 = .ok (.iastore, 1) := by decide +kernel
theorem dX11_init_149 : decode cX11_init 149 = .ok (.aload_n 0, 1) := by decide +kernel
theorem dX11_init_150 : decode cX11_init 150 = .ok (.getfield 9, 3) := by decide +kernel
theorem dX11_init_153 : decode cX11_init 153 = .ok (.iload_n 2, 1) := by decide +kernel
theorem dX11_init_154 : decode cX11_init 154 = .ok (.iconst 4, 1) := by decide +kernel
theorem dX11_init_155 : decode cX11_init 155 = .ok (.iadd, 1) := by decide +kernel
theorem dX11_init_156 : decode cX11_init 156 = .ok (.bipush 20, 2) := by decide +kernel
theorem dX11_init_158 : decode cX11_init 158 = .ok (.iastore, 1) := by decide +kernel
theorem dX11_init_159 : decode cX11_init 159 = .ok (.aload_n 0, 1) := by decide +kernel
theorem dX11_init_160 : decode cX11_init 160 = .ok (.getfield 9, 3) := by decide +kernel
theorem dX11_init_163 : decode cX11_init 163 = .ok (.iload_n 2, 1) := by decide +kernel
theorem dX11_init_164 : decode cX11_init 164 = .ok (.iconst 5, 1) := by decide +kernel
theorem dX11_init_165 : decode cX11_init 165 = .ok (.iadd, 1) := by decide +kernel
theorem dX11_init_166 : decode cX11_init 166 = .ok (.sipush 300, 3) := by decide +kernel
theorem dX11_init_169 : decode cX11_init 169 = .ok (.iastore, 1) := by decide +kernel
theorem dX11_init_170 : decode cX11_init 170 = .ok (.iconst 0, 1) := by decide +kernel
theorem dX11_init_171 : decode cX11_init 171 = .ok (.istore_n 3, 1) := by decide +kernel
theorem dX11_init_172 : decode cX11_init 172 = .ok (.iload_n 3, 1) := by decide +kernel
theorem dX11_init_173 : decode cX11_init 173 = .ok (.bipush 10, 2) := by decide +kernel
theorem dX11_init_175 : decode cX11_init 175 = .ok (.if_icmp .ge 21, 3) := by decide +kernel
theorem dX11_init_178 : decode cX11_init 178 = .ok (.aload_n 0, 1) := by decide +kernel
theorem dX11_init_179 : decode cX11_init 179 = .ok (.getfield 9, 3) := by decide +kernel
theorem dX11_init_182 : decode cX11_init 182 = .ok (.iload_n 2, 1) := by decide +kernel
theorem dX11_init_183 : decode cX11_init 183 = .ok (.bipush 11, 2) := by decide +kernel
theorem dX11_init_185 : decode cX11_init 185 = .ok (.iadd, 1) := by decide +kernel
theorem dX11_init_186 : decode cX11_init 186 = .ok (.iload_n 3, 1) := by decide +kernel
theorem dX11_init_187 : decode cX11_init 187 = .ok (.iadd, 1) := by decide +kernel
theorem dX11_init_188 : decode cX11_init 188 = .ok (.iconst (-1), 1) := by decide +kernel
theorem dX11_init_189 : decode cX11_init 189 = .ok (.iastore, 1) := by decide +kernel
theorem dX11_init_190 : decode cX11_init 190 = .ok (.iinc 3 1, 3) := by decide +kernel
theorem dX11_init_193 : decode cX11_init 193 = .ok (.goto (-21), 3) := by decide +kernel
theorem dX11_init_196 : decode cX11_init 196 = .ok (.iinc 1 1, 3) := by decide +kernel
theorem dX11_init_199 : decode cX11_init 199 = .ok (.goto (-92), 3) := by decide +kernel
theorem dX11_init_202 : decode cX11_init 202 = .ok (.return_, 1) := by decide +kernel
theorem dX11_isIn_0 : decode cX11_isIn 0 = .ok (.iload_n 0, 1) := by decide +kernel
theorem dX11_isIn_1 : decode cX11_isIn 1 = .ok (.iload_n 1, 1) := by decide +kernel
theorem dX11_isIn_2 : decode cX11_isIn 2 = .ok (.if_icmp .lt 12, 3) := by decide +kernel
theorem dX11_isIn_5 : decode cX11_isIn 5 = .ok (.iload_n 0, 1) := by decide +kernel
theorem dX11_isIn_6 : decode cX11_isIn 6 = .ok (.iload_n 2, 1) := by decide +kernel
theorem dX11_isIn_7 : decode cX11_isIn 7 = .ok (.if_icmp .gt 7, 3) := by decide +kernel
theorem dX11_isIn_10 : decode cX11_isIn 10 = .ok (.iconst 1, 1) := by decide +kernel
theorem dX11_isIn_11 : decode cX11_isIn 11 = .ok (.goto 4, 3) := by decide +kernel
theorem dX11_isIn_14 : decode cX11_isIn 14 = .ok (.iconst 0, 1) := by decide +kernel
theorem dX11_isIn_15 : decode cX11_isIn 15 = .ok (.ireturn, 1) := by decide +kernel
theorem dX11_copies_0 : decode cX11_copies 0 = .ok (.iconst 0, 1) := by decide +kernel
theorem dX11_copies_1 : decode cX11_copies 1 = .ok (.istore_n 2, 1) := by decide +kernel
theorem dX11_copies_2 : decode cX11_copies 2 = .ok (.iload_n 2, 1) := by decide +kernel
theorem dX11_copies_3 : decode cX11_copies 3 = .ok (.sipush 723, 3) := by decide +kernel
theorem dX11_copies_6 : decode cX11_copies 6 = .ok (.if_icmp .ge 15, 3) := by decide +kernel
theorem dX11_copies_9 : decode cX11_copies 9 = .ok (.aload_n 1, 1) := by decide +kernel
theorem dX11_copies_10 : decode cX11_copies 10 = .ok (.iload_n 2, 1) := by decide +kernel
theorem dX11_copies_11 : decode cX11_copies 11 = .ok (.aload_n 0, 1) := by decide +kernel
theorem dX11_copies_12 : decode cX11_copies 12 = .ok (.iload_n 2, 1) := by decide +kernel
theorem dX11_copies_13 : decode cX11_copies 13 = .ok (.iaload, 1) := by decide +kernel
theorem dX11_copies_14 : decode cX11_copies 14 = .ok (.iastore, 1) := by decide +kernel
theorem dX11_copies_15 : decode cX11_copies 15 = .ok (.iinc 2 1, 3) := by decide +kernel
theorem dX11_copies_18 : decode cX11_copies 18 = .ok (.goto (-16), 3) := by decide +kernel
theorem dX11_copies_21 : decode cX11_copies 21 = .ok (.return_, 1) := by decide +kernel
theorem dX11_of_0 : decode cX11_of 0 = .ok (.aload_n 0, 1) := by decide +kernel
theorem dX11_of_1 : decode cX11_of 1 = .ok (.getfield 9, 3) := by decide +kernel
theorem dX11_of_4 : decode cX11_of 4 = .ok (.iconst 0, 1) := by decide +kernel
theorem dX11_of_5 : decode cX11_of 5 = .ok (.bipush 12, 2) := by decide +kernel
theorem dX11_of_7 : decode cX11_of 7 = .ok (.iload_n 1, 1) := by decide +kernel
theorem dX11_of_8 : decode cX11_of 8 = .ok (.imul, 1) := by decide +kernel
theorem dX11_of_9 : decode cX11_of 9 = .ok (.iadd, 1) := by decide +kernel
theorem dX11_of_10 : decode cX11_of 10 = .ok (.iload_n 2, 1) := by decide +kernel
theorem dX11_of_11 : decode cX11_of 11 = .ok (.iadd, 1) := by decide +kernel
theorem dX11_of_12 : decode cX11_of 12 = .ok (.iaload, 1) := by decide +kernel
theorem dX11_of_13 : decode cX11_of 13 = .ok (.ireturn, 1) := by decide +kernel
theorem dX11_sets_0 : decode cX11_sets 0 = .ok (.aload_n 0, 1) := by decide +kernel
theorem dX11_sets_1 : decode cX11_sets 1 = .ok (.getfield 9, 3) := by decide +kernel
theorem dX11_sets_4 : decode cX11_sets 4 = .ok (.iconst 0, 1) := by decide +kernel
theorem dX11_sets_5 : decode cX11_sets 5 = .ok (.bipush 12, 2) := by decide +kernel
theorem dX11_sets_7 : decode cX11_sets 7 = .ok (.iload_n 1, 1) := by decide +kernel
theorem dX11_sets_8 : decode cX11_sets 8 = .ok (.imul, 1) := by decide +kernel
theorem dX11_sets_9 : decode cX11_sets 9 = .ok (.iadd, 1) := by decide +kernel
theorem dX11_sets_10 : decode cX11_sets 10 = .ok (.iload_n 2, 1) := by decide +kernel
theorem dX11_sets_11 : decode cX11_sets 11 = .ok (.iadd, 1) := by decide +kernel
theorem dX11_sets_12 : decode cX11_sets 12 = .ok (.iload_n 3, 1) := by decide +kernel
theorem dX11_sets_13 : decode cX11_sets 13 = .ok (.iastore, 1) := by decide +kernel
theorem dX11_sets_14 : decode cX11_sets 14 = .ok (.return_, 1) := by decide +kernel
theorem dX11_isBackend_0 : decode cX11_isBackend 0 = .ok (.iload_n 1, 1) := by decide +kernel
theorem dX11_isBackend_1 : decode cX11_isBackend 1 = .ok (.iconst 0, 1) := by decide +kernel
theorem dX11_isBackend_2 : decode cX11_isBackend 2 = .ok (.aload_n 0, 1) := by decide +kernel
theorem dX11_isBackend_3 : decode cX11_isBackend 3 = .ok (.getfield 9, 3) := by decide +kernel
theorem dX11_isBackend_6 : decode cX11_isBackend 6 = .ok (.sipush 144, 3) := by decide +kernel
theorem dX11_isBackend_9 : decode cX11_isBackend 9 = .ok (.iaload, 1) := by decide +kernel
theorem dX11_isBackend_10 : decode cX11_isBackend 10 = .ok (.iconst 1, 1) := by decide +kernel
theorem dX11_isBackend_11 : decode cX11_isBackend 11 = .ok (.isub, 1) := by decide +kernel
theorem dX11_isBackend_12 : decode cX11_isBackend 12 = .ok (.invokestatic 44, 3) := by decide +kernel
theorem dX11_isBackend_15 : decode cX11_isBackend 15 = .ok (.ireturn, 1) := by decide +kernel
theorem dX11_changes_0 : decode cX11_changes 0 = .ok (.aload_n 0, 1) := by decide +kernel
theorem dX11_changes_1 : decode cX11_changes 1 = .ok (.iconst 0, 1) := by decide +kernel
theorem dX11_changes_2 : decode cX11_changes 2 = .ok (.putfield 48, 3) := by decide +kernel
theorem dX11_changes_5 : decode cX11_changes 5 = .ok (.aload_n 0, 1) := by decide +kernel
theorem dX11_changes_6 : decode cX11_changes 6 = .ok (.iconst 0, 1) := by decide +kernel
theorem dX11_changes_7 : decode cX11_changes 7 = .ok (.putfield 52, 3) := by decide +kernel
theorem dX11_changes_10 : decode cX11_changes 10 = .ok (.return_, 1) := by decide +kernel
theorem dX11_addBackend_0 : decode cX11_addBackend 0 = .ok (.iload_n 1, 1) := by decide +kernel
theorem dX11_addBackend_1 : decode cX11_addBackend 1 = .ok (.iconst 0, 1) := by decide +kernel
theorem dX11_addBackend_2 : decode cX11_addBackend 2 = .ok (.iconst 3, 1) := by decide +kernel
theorem dX11_addBackend_3 : decode cX11_addBackend 3 = .ok (.invokestatic 44, 3) := by decide +kernel
theorem dX11_addBackend_6 : decode cX11_addBackend 6 = .ok (.ifCond .eq 22, 3) := by decide +kernel
theorem dX11_addBackend_9 : decode cX11_addBackend 9 = .ok (.iload_n 2, 1) := by decide +kernel
theorem dX11_addBackend_10 : decode cX11_addBackend 10 = .ok (.iconst 0, 1) := by decide +kernel
theorem dX11_addBackend_11 : decode cX11_addBackend 11 = .ok (.iconst 2, 1) := by decide +kernel
theorem dX11_addBackend_12 : decode cX11_addBackend 12 = .ok (.invokestatic 44, 3) := by decide +kernel
theorem dX11_addBackend_15 : decode cX11_addBackend 15 = .ok (.ifCond .eq 13, 3) := by decide +kernel
theorem dX11_addBackend_18 : decode cX11_addBackend 18 = .ok (.iload_n 3, 1) := by decide +kernel
theorem dX11_addBackend_19 : decode cX11_addBackend 19 = .ok (.iconst 0, 1) := by decide +kernel
theorem dX11_addBackend_20 : decode cX11_addBackend 20 = .ok (.bipush 9, 2) := by decide +kernel
theorem dX11_addBackend_22 : decode cX11_addBackend 22 = .ok (.invokestatic 44, 3) := by decide +kernel
theorem dX11_addBackend_25 : decode cX11_addBackend 25 = .ok (.ifCond .ne 6, 3) := by decide +kernel
theorem dX11_addBackend_28 : decode cX11_addBackend 28 = .ok (.bipush (-2), 2) := by decide +kernel
theorem dX11_addBackend_30 : decode cX11_addBackend 30 = .ok (.ireturn, 1) := by decide +kernel
theorem dX11_addBackend_31 : decode cX11_addBackend 31 = .ok (.aload_n 0, 1) := by decide +kernel
theorem dX11_addBackend_32 : decode cX11_addBackend 32 = .ok (.getfield 9, 3) := by decide +kernel
theorem dX11_addBackend_35 : decode cX11_addBackend 35 = .ok (.sipush 144, 3) := by decide +kernel
theorem dX11_addBackend_38 : decode cX11_addBackend 38 = .ok (.iaload, 1) := by decide +kernel
theorem dX11_addBackend_39 : decode cX11_addBackend 39 = .ok (.bipush 12, 2) := by decide +kernel
theorem dX11_addBackend_41 : decode cX11_addBackend 41 = .ok (.if_icmp .ne 6, 3) := by decide +kernel
theorem dX11_addBackend_44 : decode cX11_addBackend 44 = .ok (.bipush (-3), 2) := by decide +kernel
theorem dX11_addBackend_46 : decode cX11_addBackend 46 = .ok (.ireturn, 1) := by decide +kernel
theorem dX11_addBackend_47 : decode cX11_addBackend 47 = .ok (.aload_n 0, 1) := by decide +kernel
theorem dX11_addBackend_48 : decode cX11_addBackend 48 = .ok (.invokevirtual 55, 3) := by decide +kernel
theorem dX11_addBackend_51 : decode cX11_addBackend 51 = .ok (.aload_n 0, 1) := by decide +kernel
theorem dX11_addBackend_52 : decode cX11_addBackend 52 = .ok (.getfield 9, 3) := by decide +kernel
theorem dX11_addBackend_55 : decode cX11_addBackend 55 = .ok (.sipush 144, 3) := by decide +kernel
theorem dX11_addBackend_58 : decode cX11_addBackend 58 = .ok (.iaload, 1) := by decide +kernel
theorem dX11_addBackend_59 : decode cX11_addBackend 59 = .ok (.istore 4, 2) := by decide +kernel
theorem dX11_addBackend_61 : decode cX11_addBackend 61 = .ok (.aload_n 0, 1) := by decide +kernel
theorem dX11_addBackend_62 : decode cX11_addBackend 62 = .ok (.getfield 9, 3) := by decide +kernel
theorem dX11_addBackend_65 : decode cX11_addBackend 65 = .ok (.sipush 144, 3) := by decide +kernel
theorem dX11_addBackend_68 : decode cX11_addBackend 68 = .ok (.dup2, 1) := by decide +kernel
theorem dX11_addBackend_69 : decode cX11_addBackend 69 = .ok (.iaload, 1) := by decide +kernel
theorem dX11_addBackend_70 : decode cX11_addBackend 70 = .ok (.iconst 1, 1) := by decide +kernel
theorem dX11_addBackend_71 : decode cX11_addBackend 71 = .ok (.iadd, 1) := by decide +kernel
theorem dX11_addBackend_72 : decode cX11_addBackend 72 = .ok (.iastore, 1) := by decide +kernel
theorem dX11_addBackend_73 : decode cX11_addBackend 73 = .ok (.iconst 0, 1) := by decide +kernel
theorem dX11_addBackend_74 : decode cX11_addBackend 74 = .ok (.istore 5, 2) := by decide +kernel
theorem dX11_addBackend_76 : decode cX11_addBackend 76 = .ok (.iload 5, 2) := by decide +kernel
theorem dX11_addBackend_78 : decode cX11_addBackend 78 = .ok (.bipush 12, 2) := by decide +kernel
theorem dX11_addBackend_80 : decode cX11_addBackend 80 = .ok (.if_icmp .ge 18, 3) := by decide +kernel
theorem dX11_addBackend_83 : decode cX11_addBackend 83 = .ok (.aload_n 0, 1) := by decide +kernel
theorem dX11_addBackend_84 : decode cX11_addBackend 84 = .ok (.iload 4, 2) := by decide +kernel
theorem dX11_addBackend_86 : decode cX11_addBackend 86 = .ok (.iload 5, 2) := by decide +kernel
theorem dX11_addBackend_88 : decode cX11_addBackend 88 = .ok (.iconst 0, 1) := by decide +kernel
theorem dX11_addBackend_89 : decode cX11_addBackend 89 = .ok (.invokevirtual 58, 3) := by decide +kernel
theorem dX11_addBackend_92 : decode cX11_addBackend 92 = .ok (.iinc 5 1, 3) := by decide +kernel
theorem dX11_addBackend_95 : decode cX11_addBackend 95 = .ok (.goto (-19), 3) := by decide +kernel
theorem dX11_addBackend_98 : decode cX11_addBackend 98 = .ok (.aload_n 0, 1) := by decide +kernel
theorem dX11_addBackend_99 : decode cX11_addBackend 99 = .ok (.iload 4, 2) := by decide +kernel
theorem dX11_addBackend_101 : decode cX11_addBackend 101 = .ok (.iconst 0, 1) := by decide +kernel
theorem dX11_addBackend_102 : decode cX11_addBackend 102 = .ok (.iload_n 1, 1) := by decide +kernel
theorem dX11_addBackend_103 : decode cX11_addBackend 103 = .ok (.invokevirtual 58, 3) := by decide +kernel
theorem dX11_addBackend_106 : decode cX11_addBackend 106 = .ok (.aload_n 0, 1) := by decide +kernel
theorem dX11_addBackend_107 : decode cX11_addBackend 107 = .ok (.iload 4, 2) := by decide +kernel
theorem dX11_addBackend_109 : decode cX11_addBackend 109 = .ok (.iconst 1, 1) := by decide +kernel
theorem dX11_addBackend_110 : decode cX11_addBackend 110 = .ok (.iload_n 2, 1) := by decide +kernel
theorem dX11_addBackend_111 : decode cX11_addBackend 111 = .ok (.invokevirtual 58, 3) := by decide +kernel
theorem dX11_addBackend_114 : decode cX11_addBackend 114 = .ok (.aload_n 0, 1) := by decide +kernel
theorem dX11_addBackend_115 : decode cX11_addBackend 115 = .ok (.iload 4, 2) := by decide +kernel
theorem dX11_addBackend_117 : decode cX11_addBackend 117 = .ok (.iconst 2, 1) := by decide +kernel
theorem dX11_addBackend_118 : decode cX11_addBackend 118 = .ok (.iload_n 3, 1) := by decide +kernel
theorem dX11_addBackend_119 : decode cX11_addBackend 119 = .ok (.invokevirtual 58, 3) := by decide +kernel
theorem dX11_addBackend_122 : decode cX11_addBackend 122 = .ok (.aload_n 0, 1) := by decide +kernel
theorem dX11_addBackend_123 : decode cX11_addBackend 123 = .ok (.iload 4, 2) := by decide +kernel
theorem dX11_addBackend_125 : decode cX11_addBackend 125 = .ok (.iconst 3, 1) := by decide +kernel
theorem dX11_addBackend_126 : decode cX11_addBackend 126 = .ok (.sipush 255, 3) := by decide +kernel
theorem dX11_addBackend_129 : decode cX11_addBackend 129 = .ok (.invokevirtual 58, 3) := by decide +kernel
theorem dX11_addBackend_132 : decode cX11_addBackend 132 = .ok (.iload 4, 2) := by decide +kernel
theorem dX11_addBackend_134 : decode cX11_addBackend 134 = .ok (.ireturn, 1) := by decide +kernel
theorem dX11_put_0 : decode cX11_put 0 = .ok (.aload_n 0, 1) := by decide +kernel
theorem dX11_put_1 : decode cX11_put 1 = .ok (.iload_n 1, 1) := by decide +kernel
theorem dX11_put_2 : decode cX11_put 2 = .ok (.invokevirtual 62, 3) := by decide +kernel
theorem dX11_put_5 : decode cX11_put 5 = .ok (.ifCond .ne 5, 3) := by decide +kernel
theorem dX11_put_8 : decode cX11_put 8 = .ok (.iconst (-1), 1) := by decide +kernel
theorem dX11_put_9 : decode cX11_put 9 = .ok (.ireturn, 1) := by decide +kernel
theorem dX11_put_10 : decode cX11_put 10 = .ok (.iload_n 3, 1) := by decide +kernel
theorem dX11_put_11 : decode cX11_put 11 = .ok (.iconst 0, 1) := by decide +kernel
theorem dX11_put_12 : decode cX11_put 12 = .ok (.iload 4, 2) := by decide +kernel
theorem dX11_put_14 : decode cX11_put 14 = .ok (.invokestatic 44, 3) := by decide +kernel
theorem dX11_put_17 : decode cX11_put 17 = .ok (.ifCond .ne 6, 3) := by decide +kernel
theorem dX11_put_20 : decode cX11_put 20 = .ok (.bipush (-2), 2) := by decide +kernel
theorem dX11_put_22 : decode cX11_put 22 = .ok (.ireturn, 1) := by decide +kernel
theorem dX11_put_23 : decode cX11_put 23 = .ok (.aload_n 0, 1) := by decide +kernel
theorem dX11_put_24 : decode cX11_put 24 = .ok (.invokevirtual 55, 3) := by decide +kernel
theorem dX11_put_27 : decode cX11_put 27 = .ok (.aload_n 0, 1) := by decide +kernel
theorem dX11_put_28 : decode cX11_put 28 = .ok (.iload_n 1, 1) := by decide +kernel
theorem dX11_put_29 : decode cX11_put 29 = .ok (.iload_n 2, 1) := by decide +kernel
theorem dX11_put_30 : decode cX11_put 30 = .ok (.invokevirtual 66, 3) := by decide +kernel
theorem dX11_put_33 : decode cX11_put 33 = .ok (.istore 5, 2) := by decide +kernel
theorem dX11_put_35 : decode cX11_put 35 = .ok (.aload_n 0, 1) := by decide +kernel
theorem dX11_put_36 : decode cX11_put 36 = .ok (.iload_n 1, 1) := by decide +kernel
theorem dX11_put_37 : decode cX11_put 37 = .ok (.iload_n 2, 1) := by decide +kernel
theorem dX11_put_38 : decode cX11_put 38 = .ok (.iload_n 3, 1) := by decide +kernel
theorem dX11_put_39 : decode cX11_put 39 = .ok (.invokevirtual 58, 3) := by decide +kernel
theorem dX11_put_42 : decode cX11_put 42 = .ok (.iload 5, 2) := by decide +kernel
theorem dX11_put_44 : decode cX11_put 44 = .ok (.ireturn, 1) := by decide +kernel
theorem dX11_setWeight_0 : decode cX11_setWeight 0 = .ok (.aload_n 0, 1) := by decide +kernel
theorem dX11_setWeight_1 : decode cX11_setWeight 1 = .ok (.iload_n 1, 1) := by decide +kernel
theorem dX11_setWeight_2 : decode cX11_setWeight 2 = .ok (.iconst 2, 1) := by decide +kernel
theorem dX11_setWeight_3 : decode cX11_setWeight 3 = .ok (.iload_n 2, 1) := by decide +kernel
theorem dX11_setWeight_4 : decode cX11_setWeight 4 = .ok (.bipush 9, 2) := by decide +kernel
theorem dX11_setWeight_6 : decode cX11_setWeight 6 = .ok (.invokevirtual 70, 3) := by decide +kernel
theorem dX11_setWeight_9 : decode cX11_setWeight 9 = .ok (.ireturn, 1) := by decide +kernel
theorem dX11_setPattern_0 : decode cX11_setPattern 0 = .ok (.aload_n 0, 1) := by decide +kernel
theorem dX11_setPattern_1 : decode cX11_setPattern 1 = .ok (.iload_n 1, 1) := by decide +kernel
theorem dX11_setPattern_2 : decode cX11_setPattern 2 = .ok (.iconst 3, 1) := by decide +kernel
theorem dX11_setPattern_3 : decode cX11_setPattern 3 = .ok (.iload_n 2, 1) := by decide +kernel
theorem dX11_setPattern_4 : decode cX11_setPattern 4 = .ok (.sipush 255, 3) := by decide +kernel
theorem dX11_setPattern_7 : decode cX11_setPattern 7 = .ok (.invokevirtual 70, 3) := by decide +kernel
theorem dX11_setPattern_10 : decode cX11_setPattern 10 = .ok (.ireturn, 1) := by decide +kernel
theorem dX11_configure_0 : decode cX11_configure 0 = .ok (.iload_n 1, 1) := by decide +kernel
theorem dX11_configure_1 : decode cX11_configure 1 = .ok (.iconst 0, 1) := by decide +kernel
theorem dX11_configure_2 : decode cX11_configure 2 = .ok (.iconst 3, 1) := by decide +kernel
theorem dX11_configure_3 : decode cX11_configure 3 = .ok (.invokestatic 44, 3) := by decide +kernel
theorem dX11_configure_6 : decode cX11_configure 6 = .ok (.ifCond .eq 55, 3) := by decide +kernel
theorem dX11_configure_9 : decode cX11_configure 9 = .ok (.iload_n 2, 1) := by decide +kernel
theorem dX11_configure_10 : decode cX11_configure 10 = .ok (.iconst 0, 1) := by decide +kernel
theorem dX11_configure_11 : decode cX11_configure 11 = .ok (.iconst 2, 1) := by decide +kernel
theorem dX11_configure_12 : decode cX11_configure 12 = .ok (.invokestatic 44, 3) := by decide +kernel
theorem dX11_configure_15 : decode cX11_configure 15 = .ok (.ifCond .eq 46, 3) := by decide +kernel
theorem dX11_configure_18 : decode cX11_configure 18 = .ok (.iload_n 3, 1) := by decide +kernel
theorem dX11_configure_19 : decode cX11_configure 19 = .ok (.iconst 1, 1) := by decide +kernel
theorem dX11_configure_20 : decode cX11_configure 20 = .ok (.bipush 9, 2) := by decide +kernel
theorem dX11_configure_22 : decode cX11_configure 22 = .ok (.invokestatic 44, 3) := by decide +kernel
theorem dX11_configure_25 : decode cX11_configure 25 = .ok (.ifCond .eq 36, 3) := by decide +kernel
theorem dX11_configure_28 : decode cX11_configure 28 = .ok (.iload 4, 2) := by decide +kernel
theorem dX11_configure_30 : decode cX11_configure 30 = .ok (.iconst 1, 1) := by decide +kernel
theorem dX11_configure_31 : decode cX11_configure 31 = .ok (.bipush 20, 2) := by decide +kernel
theorem dX11_configure_33 : decode cX11_configure 33 = .ok (.invokestatic 44, 3) := by decide +kernel
theorem dX11_configure_36 : decode cX11_configure 36 = .ok (.ifCond .eq 25, 3) := by decide +kernel
theorem dX11_configure_39 : decode cX11_configure 39 = .ok (.iload 5, 2) := by decide +kernel
theorem dX11_configure_41 : decode cX11_configure 41 = .ok (.iconst 0, 1) := by decide +kernel
theorem dX11_configure_42 : decode cX11_configure 42 = .ok (.bipush 100, 2) := by decide +kernel
theorem dX11_configure_44 : decode cX11_configure 44 = .ok (.invokestatic 44, 3) := by decide +kernel
theorem dX11_configure_47 : decode cX11_configure 47 = .ok (.ifCond .eq 14, 3) := by decide +kernel
theorem dX11_configure_50 : decode cX11_configure 50 = .ok (.iload 6, 2) := by decide +kernel
theorem dX11_configure_52 : decode cX11_configure 52 = .ok (.iconst 0, 1) := by decide +kernel
theorem dX11_configure_53 : decode cX11_configure 53 = .ok (.bipush 100, 2) := by decide +kernel
theorem dX11_configure_55 : decode cX11_configure 55 = .ok (.invokestatic 44, 3) := by decide +kernel
theorem dX11_configure_58 : decode cX11_configure 58 = .ok (.ifCond .ne 6, 3) := by decide +kernel
theorem dX11_configure_61 : decode cX11_configure 61 = .ok (.bipush (-2), 2) := by decide +kernel
theorem dX11_configure_63 : decode cX11_configure 63 = .ok (.ireturn, 1) := by decide +kernel
theorem dX11_configure_64 : decode cX11_configure 64 = .ok (.aload_n 0, 1) := by decide +kernel
theorem dX11_configure_65 : decode cX11_configure 65 = .ok (.invokevirtual 55, 3) := by decide +kernel
theorem dX11_configure_68 : decode cX11_configure 68 = .ok (.sipush 145, 3) := by decide +kernel
theorem dX11_configure_71 : decode cX11_configure 71 = .ok (.bipush 21, 2) := by decide +kernel
theorem dX11_configure_73 : decode cX11_configure 73 = .ok (.iload_n 1, 1) := by decide +kernel
theorem dX11_configure_74 : decode cX11_configure 74 = .ok (.imul, 1) := by decide +kernel
theorem dX11_configure_75 : decode cX11_configure 75 = .ok (.iadd, 1) := by decide +kernel
theorem dX11_configure_76 : decode cX11_configure 76 = .ok (.istore 7, 2) := by decide +kernel
theorem dX11_configure_78 : decode cX11_configure 78 = .ok (.aload_n 0, 1) := by decide +kernel
theorem dX11_configure_79 : decode cX11_configure 79 = .ok (.getfield 9, 3) := by decide +kernel
theorem dX11_configure_82 : decode cX11_configure 82 = .ok (.iload 7, 2) := by decide +kernel
theorem dX11_configure_84 : decode cX11_configure 84 = .ok (.iaload, 1) := by decide +kernel
theorem dX11_configure_85 : decode cX11_configure 85 = .ok (.istore 8, 2) := by decide +kernel
theorem dX11_configure_87 : decode cX11_configure 87 = .ok (.aload_n 0, 1) := by decide +kernel
theorem dX11_configure_88 : decode cX11_configure 88 = .ok (.getfield 9, 3) := by decide +kernel
theorem dX11_configure_91 : decode cX11_configure 91 = .ok (.iload 7, 2) := by decide +kernel
theorem dX11_configure_93 : decode cX11_configure 93 = .ok (.iload_n 2, 1) := by decide +kernel
theorem dX11_configure_94 : decode cX11_configure 94 = .ok (.iastore, 1) := by decide +kernel
theorem dX11_configure_95 : decode cX11_configure 95 = .ok (.aload_n 0, 1) := by decide +kernel
theorem dX11_configure_96 : decode cX11_configure 96 = .ok (.getfield 9, 3) := by decide +kernel
theorem dX11_configure_99 : decode cX11_configure 99 = .ok (.iload 7, 2) := by decide +kernel
theorem dX11_configure_101 : decode cX11_configure 101 = .ok (.iconst 1, 1) := by decide +kernel
theorem dX11_configure_102 : decode cX11_configure 102 = .ok (.iadd, 1) := by decide +kernel
theorem dX11_configure_103 : decode cX11_configure 103 = .ok (.iload_n 3, 1) := by decide +kernel
theorem dX11_configure_104 : decode cX11_configure 104 = .ok (.iastore, 1) := by decide +kernel
theorem dX11_configure_105 : decode cX11_configure 105 = .ok (.aload_n 0, 1) := by decide +kernel
theorem dX11_configure_106 : decode cX11_configure 106 = .ok (.getfield 9, 3) := by decide +kernel
theorem dX11_configure_109 : decode cX11_configure 109 = .ok (.iload 7, 2) := by decide +kernel
theorem dX11_configure_111 : decode cX11_configure 111 = .ok (.iconst 2, 1) := by decide +kernel
theorem dX11_configure_112 : decode cX11_configure 112 = .ok (.iadd, 1) := by decide +kernel
theorem dX11_configure_113 : decode cX11_configure 113 = .ok (.iload 4, 2) := by decide +kernel
theorem dX11_configure_115 : decode cX11_configure 115 = .ok (.iastore, 1) := by decide +kernel
theorem dX11_configure_116 : decode cX11_configure 116 = .ok (.aload_n 0, 1) := by decide +kernel
theorem dX11_configure_117 : decode cX11_configure 117 = .ok (.getfield 9, 3) := by decide +kernel
theorem dX11_configure_120 : decode cX11_configure 120 = .ok (.iload 7, 2) := by decide +kernel
theorem dX11_configure_122 : decode cX11_configure 122 = .ok (.iconst 3, 1) := by decide +kernel
theorem dX11_configure_123 : decode cX11_configure 123 = .ok (.iadd, 1) := by decide +kernel
theorem dX11_configure_124 : decode cX11_configure 124 = .ok (.iload 5, 2) := by decide +kernel
theorem dX11_configure_126 : decode cX11_configure 126 = .ok (.iastore, 1) := by decide +kernel
theorem dX11_configure_127 : decode cX11_configure 127 = .ok (.aload_n 0, 1) := by decide +kernel
theorem dX11_configure_128 : decode cX11_configure 128 = .ok (.getfield 9, 3) := by decide +kernel
theorem dX11_configure_131 : decode cX11_configure 131 = .ok (.iload 7, 2) := by decide +kernel
theorem dX11_configure_133 : decode cX11_configure 133 = .ok (.iconst 4, 1) := by decide +kernel
theorem dX11_configure_134 : decode cX11_configure 134 = .ok (.iadd, 1) := by decide +kernel
theorem dX11_configure_135 : decode cX11_configure 135 = .ok (.iload 6, 2) := by decide +kernel
theorem dX11_configure_137 : decode cX11_configure 137 = .ok (.iastore, 1) := by decide +kernel
theorem dX11_configure_138 : decode cX11_configure 138 = .ok (.iload 8, 2) := by decide +kernel
theorem dX11_configure_140 : decode cX11_configure 140 = .ok (.ireturn, 1) := by decide +kernel
theorem dX11_setZoneLimit_0 : decode cX11_setZoneLimit 0 = .ok (.iload_n 1, 1) := by decide +kernel
theorem dX11_setZoneLimit_1 : decode cX11_setZoneLimit 1 = .ok (.iconst 1, 1) := by decide +kernel
theorem dX11_setZoneLimit_2 : decode cX11_setZoneLimit 2 = .ok (.bipush 100, 2) := by decide +kernel
theorem dX11_setZoneLimit_4 : decode cX11_setZoneLimit 4 = .ok (.invokestatic 44, 3) := by decide +kernel
theorem dX11_setZoneLimit_7 : decode cX11_setZoneLimit 7 = .ok (.ifCond .ne 6, 3) := by decide +kernel
theorem dX11_setZoneLimit_10 : decode cX11_setZoneLimit 10 = .ok (.bipush (-2), 2) := by decide +kernel
theorem dX11_setZoneLimit_12 : decode cX11_setZoneLimit 12 = .ok (.ireturn, 1) := by decide +kernel
theorem dX11_setZoneLimit_13 : decode cX11_setZoneLimit 13 = .ok (.aload_n 0, 1) := by decide +kernel
theorem dX11_setZoneLimit_14 : decode cX11_setZoneLimit 14 = .ok (.invokevirtual 55, 3) := by decide +kernel
theorem dX11_setZoneLimit_17 : decode cX11_setZoneLimit 17 = .ok (.aload_n 0, 1) := by decide +kernel
theorem dX11_setZoneLimit_18 : decode cX11_setZoneLimit 18 = .ok (.getfield 9, 3) := by decide +kernel
theorem dX11_setZoneLimit_21 : decode cX11_setZoneLimit 21 = .ok (.sipush 229, 3) := by decide +kernel
theorem dX11_setZoneLimit_24 : decode cX11_setZoneLimit 24 = .ok (.iaload, 1) := by decide +kernel
theorem dX11_setZoneLimit_25 : decode cX11_setZoneLimit 25 = .ok (.istore_n 2, 1) := by decide +kernel
theorem dX11_setZoneLimit_26 : decode cX11_setZoneLimit 26 = .ok (.aload_n 0, 1) := by decide +kernel
theorem dX11_setZoneLimit_27 : decode cX11_setZoneLimit 27 = .ok (.getfield 9, 3) := by decide +kernel
theorem dX11_setZoneLimit_30 : decode cX11_setZoneLimit 30 = .ok (.sipush 229, 3) := by decide +kernel
theorem dX11_setZoneLimit_33 : decode cX11_setZoneLimit 33 = .ok (.iload_n 1, 1) := by decide +kernel
theorem dX11_setZoneLimit_34 : decode cX11_setZoneLimit 34 = .ok (.iastore, 1) := by decide +kernel
theorem dX11_setZoneLimit_35 : decode cX11_setZoneLimit 35 = .ok (.iload_n 2, 1) := by decide +kernel
theorem dX11_setZoneLimit_36 : decode cX11_setZoneLimit 36 = .ok (.ireturn, 1) := by decide +kernel
theorem dX11_append_0 : decode cX11_append 0 = .ok (.iload_n 1, 1) := by decide +kernel
theorem dX11_append_1 : decode cX11_append 1 = .ok (.iconst 0, 1) := by decide +kernel
theorem dX11_append_2 : decode cX11_append 2 = .ok (.bipush 127, 2) := by decide +kernel
theorem dX11_append_4 : decode cX11_append 4 = .ok (.invokestatic 44, 3) := by decide +kernel
theorem dX11_append_7 : decode cX11_append 7 = .ok (.ifCond .eq 13, 3) := by decide +kernel
theorem dX11_append_10 : decode cX11_append 10 = .ok (.iload_n 2, 1) := by decide +kernel
theorem dX11_append_11 : decode cX11_append 11 = .ok (.iconst 1, 1) := by decide +kernel
theorem dX11_append_12 : decode cX11_append 12 = .ok (.bipush 40, 2) := by decide +kernel
theorem dX11_append_14 : decode cX11_append 14 = .ok (.invokestatic 44, 3) := by decide +kernel
theorem dX11_append_17 : decode cX11_append 17 = .ok (.ifCond .ne 6, 3) := by decide +kernel
theorem dX11_append_20 : decode cX11_append 20 = .ok (.bipush (-2), 2) := by decide +kernel
theorem dX11_append_22 : decode cX11_append 22 = .ok (.ireturn, 1) := by decide +kernel
theorem dX11_append_23 : decode cX11_append 23 = .ok (.aload_n 0, 1) := by decide +kernel
theorem dX11_append_24 : decode cX11_append 24 = .ok (.getfield 74, 3) := by decide +kernel
theorem dX11_append_27 : decode cX11_append 27 = .ok (.iload_n 2, 1) := by decide +kernel
theorem dX11_append_28 : decode cX11_append 28 = .ok (.iadd, 1) := by decide +kernel
theorem dX11_append_29 : decode cX11_append 29 = .ok (.bipush 40, 2) := by decide +kernel
theorem dX11_append_31 : decode cX11_append 31 = .ok (.if_icmp .le 6, 3) := by decide +kernel
theorem dX11_append_34 : decode cX11_append 34 = .ok (.bipush (-3), 2) := by decide +kernel
theorem dX11_append_36 : decode cX11_append 36 = .ok (.ireturn, 1) := by decide +kernel
theorem dX11_append_37 : decode cX11_append 37 = .ok (.iconst 0, 1) := by decide +kernel
theorem dX11_append_38 : decode cX11_append 38 = .ok (.istore_n 3, 1) := by decide +kernel
theorem dX11_append_39 : decode cX11_append 39 = .ok (.iload_n 3, 1) := by decide +kernel
theorem dX11_append_40 : decode cX11_append 40 = .ok (.iload_n 2, 1) := by decide +kernel
theorem dX11_append_41 : decode cX11_append 41 = .ok (.if_icmp .ge 29, 3) := by decide +kernel
theorem dX11_append_44 : decode cX11_append 44 = .ok (.aload_n 0, 1) := by decide +kernel
theorem dX11_append_45 : decode cX11_append 45 = .ok (.getfield 22, 3) := by decide +kernel
theorem dX11_append_48 : decode cX11_append 48 = .ok (.aload_n 0, 1) := by decide +kernel
theorem dX11_append_49 : decode cX11_append 49 = .ok (.getfield 74, 3) := by decide +kernel
theorem dX11_append_52 : decode cX11_append 52 = .ok (.iload_n 1, 1) := by decide +kernel
theorem dX11_append_53 : decode cX11_append 53 = .ok (.iastore, 1) := by decide +kernel
theorem dX11_append_54 : decode cX11_append 54 = .ok (.aload_n 0, 1) := by decide +kernel
theorem dX11_append_55 : decode cX11_append 55 = .ok (.dup, 1) := by decide +kernel
theorem dX11_append_56 : decode cX11_append 56 = .ok (.getfield 74, 3) := by decide +kernel
theorem dX11_append_59 : decode cX11_append 59 = .ok (.iconst 1, 1) := by decide +kernel
theorem dX11_append_60 : decode cX11_append 60 = .ok (.iadd, 1) := by decide +kernel
theorem dX11_append_61 : decode cX11_append 61 = .ok (.putfield 74, 3) := by decide +kernel
theorem dX11_append_64 : decode cX11_append 64 = .ok (.iinc 3 1, 3) := by decide +kernel
theorem dX11_append_67 : decode cX11_append 67 = .ok (.goto (-28), 3) := by decide +kernel
theorem dX11_append_70 : decode cX11_append 70 = .ok (.aload_n 0, 1) := by decide +kernel
theorem dX11_append_71 : decode cX11_append 71 = .ok (.getfield 74, 3) := by decide +kernel
theorem dX11_append_74 : decode cX11_append 74 = .ok (.ireturn, 1) := by decide +kernel
theorem dX11_isOfPath_0 : decode cX11_isOfPath 0 = .ok (.iload_n 0, 1) := by decide +kernel
theorem dX11_isOfPath_1 : decode cX11_isOfPath 1 = .ok (.bipush 47, 2) := by decide +kernel
theorem dX11_isOfPath_3 : decode cX11_isOfPath 3 = .ok (.if_icmp .eq 14, 3) := by decide +kernel
theorem dX11_isOfPath_6 : decode cX11_isOfPath 6 = .ok (.iload_n 0, 1) := by decide +kernel
theorem dX11_isOfPath_7 : decode cX11_isOfPath 7 = .ok (.bipush 97, 2) := by decide +kernel
theorem dX11_isOfPath_9 : decode cX11_isOfPath 9 = .ok (.bipush 122, 2) := by decide +kernel
theorem dX11_isOfPath_11 : decode cX11_isOfPath 11 = .ok (.invokestatic 44, 3) := by decide +kernel
theorem dX11_isOfPath_14 : decode cX11_isOfPath 14 = .ok (.ifCond .eq 7, 3) := by decide +kernel
theorem dX11_isOfPath_17 : decode cX11_isOfPath 17 = .ok (.iconst 1, 1) := by decide +kernel
theorem dX11_isOfPath_18 : decode cX11_isOfPath 18 = .ok (.goto 4, 3) := by decide +kernel
theorem dX11_isOfPath_21 : decode cX11_isOfPath 21 = .ok (.iconst 0, 1) := by decide +kernel
theorem dX11_isOfPath_22 : decode cX11_isOfPath 22 = .ok (.ireturn, 1) := by decide +kernel
theorem dX11_isPath_0 : decode cX11_isPath 0 = .ok (.aload_n 0, 1) := by decide +kernel
theorem dX11_isPath_1 : decode cX11_isPath 1 = .ok (.getfield 74, 3) := by decide +kernel
theorem dX11_isPath_4 : decode cX11_isPath 4 = .ok (.ifCond .eq 14, 3) := by decide +kernel
theorem dX11_isPath_7 : decode cX11_isPath 7 = .ok (.aload_n 0, 1) := by decide +kernel
theorem dX11_isPath_8 : decode cX11_isPath 8 = .ok (.getfield 22, 3) := by decide +kernel
theorem dX11_isPath_11 : decode cX11_isPath 11 = .ok (.iconst 0, 1) := by decide +kernel
theorem dX11_isPath_12 : decode cX11_isPath 12 = .ok (.iaload, 1) := by decide +kernel
theorem dX11_isPath_13 : decode cX11_isPath 13 = .ok (.bipush 47, 2) := by decide +kernel
theorem dX11_isPath_15 : decode cX11_isPath 15 = .ok (.if_icmp .eq 5, 3) := by decide +kernel
theorem dX11_isPath_18 : decode cX11_isPath 18 = .ok (.iconst 0, 1) := by decide +kernel
theorem dX11_isPath_19 : decode cX11_isPath 19 = .ok (.ireturn, 1) := by decide +kernel
theorem dX11_isPath_20 : decode cX11_isPath 20 = .ok (.iconst 0, 1) := by decide +kernel
theorem dX11_isPath_21 : decode cX11_isPath 21 = .ok (.istore_n 1, 1) := by decide +kernel
theorem dX11_isPath_22 : decode cX11_isPath 22 = .ok (.iload_n 1, 1) := by decide +kernel
theorem dX11_isPath_23 : decode cX11_isPath 23 = .ok (.aload_n 0, 1) := by decide +kernel
theorem dX11_isPath_24 : decode cX11_isPath 24 = .ok (.getfield 74, 3) := by decide +kernel
theorem dX11_isPath_27 : decode cX11_isPath 27 = .ok (.if_icmp .ge 23, 3) := by decide +kernel
theorem dX11_isPath_30 : decode cX11_isPath 30 = .ok (.aload_n 0, 1) := by decide +kernel
theorem dX11_isPath_31 : decode cX11_isPath 31 = .ok (.getfield 22, 3) := by decide +kernel
theorem dX11_isPath_34 : decode cX11_isPath 34 = .ok (.iload_n 1, 1) := by decide +kernel
theorem dX11_isPath_35 : decode cX11_isPath 35 = .ok (.iaload, 1) := by decide +kernel
theorem dX11_isPath_36 : decode cX11_isPath 36 = .ok (.invokestatic 77, 3) := by decide +kernel
theorem dX11_isPath_39 : decode cX11_isPath 39 = .ok (.ifCond .ne 5, 3) := by decide +kernel
theorem dX11_isPath_42 : decode cX11_isPath 42 = .ok (.iconst 0, 1) := by decide +kernel
theorem dX11_isPath_43 : decode cX11_isPath 43 = .ok (.ireturn, 1) := by decide +kernel
theorem dX11_isPath_44 : decode cX11_isPath 44 = .ok (.iinc 1 1, 3) := by decide +kernel
theorem dX11_isPath_47 : decode cX11_isPath 47 = .ok (.goto (-25), 3) := by decide +kernel
theorem dX11_isPath_50 : decode cX11_isPath 50 = .ok (.iconst 1, 1) := by decide +kernel
theorem dX11_isPath_51 : decode cX11_isPath 51 = .ok (.ireturn, 1) := by decide +kernel
theorem dX11_here_0 : decode cX11_here 0 = .ok (.aload_n 0, 1) := by decide +kernel
theorem dX11_here_1 : decode cX11_here 1 = .ok (.getfield 80, 3) := by decide +kernel
theorem dX11_here_4 : decode cX11_here 4 = .ok (.aload_n 0, 1) := by decide +kernel
theorem dX11_here_5 : decode cX11_here 5 = .ok (.getfield 74, 3) := by decide +kernel
theorem dX11_here_8 : decode cX11_here 8 = .ok (.if_icmp .ge 15, 3) := by decide +kernel
theorem dX11_here_11 : decode cX11_here 11 = .ok (.aload_n 0, 1) := by decide +kernel
theorem dX11_here_12 : decode cX11_here 12 = .ok (.getfield 22, 3) := by decide +kernel
theorem dX11_here_15 : decode cX11_here 15 = .ok (.aload_n 0, 1) := by decide +kernel
theorem dX11_here_16 : decode cX11_here 16 = .ok (.getfield 80, 3) := by decide +kernel
theorem dX11_here_19 : decode cX11_here 19 = .ok (.iaload, 1) := by decide +kernel
theorem dX11_here_20 : decode cX11_here 20 = .ok (.goto 4, 3) := by decide +kernel
theorem dX11_here_23 : decode cX11_here 23 = .ok (.iconst (-1), 1) := by decide +kernel
theorem dX11_here_24 : decode cX11_here 24 = .ok (.ireturn, 1) := by decide +kernel
theorem dX11_sign_0 : decode cX11_sign 0 = .ok (.aload_n 0, 1) := by decide +kernel
theorem dX11_sign_1 : decode cX11_sign 1 = .ok (.dup, 1) := by decide +kernel
theorem dX11_sign_2 : decode cX11_sign 2 = .ok (.getfield 83, 3) := by decide +kernel
theorem dX11_sign_5 : decode cX11_sign 5 = .ok (.aload_n 0, 1) := by decide +kernel
theorem dX11_sign_6 : decode cX11_sign 6 = .ok (.invokevirtual 86, 3) := by decide +kernel
theorem dX11_sign_9 : decode cX11_sign 9 = .ok (.iload_n 1, 1) := by decide +kernel
theorem dX11_sign_10 : decode cX11_sign 10 = .ok (.if_icmp .eq 7, 3) := by decide +kernel
theorem dX11_sign_13 : decode cX11_sign 13 = .ok (.iconst 1, 1) := by decide +kernel
theorem dX11_sign_14 : decode cX11_sign 14 = .ok (.goto 4, 3) := by decide +kernel
theorem dX11_sign_17 : decode cX11_sign 17 = .ok (.iconst 0, 1) := by decide +kernel
theorem dX11_sign_18 : decode cX11_sign 18 = .ok (.ior, 1) := by decide +kernel
theorem dX11_sign_19 : decode cX11_sign 19 = .ok (.putfield 83, 3) := by decide +kernel
theorem dX11_sign_22 : decode cX11_sign 22 = .ok (.aload_n 0, 1) := by decide +kernel
theorem dX11_sign_23 : decode cX11_sign 23 = .ok (.dup, 1) := by decide +kernel
theorem dX11_sign_24 : decode cX11_sign 24 = .ok (.getfield 80, 3) := by decide +kernel
theorem dX11_sign_27 : decode cX11_sign 27 = .ok (.aload_n 0, 1) := by decide +kernel
theorem dX11_sign_28 : decode cX11_sign 28 = .ok (.getfield 83, 3) := by decide +kernel
theorem dX11_sign_31 : decode cX11_sign 31 = .ok (.ifCond .eq 7, 3) := by decide +kernel
theorem dX11_sign_34 : decode cX11_sign 34 = .ok (.iconst 0, 1) := by decide +kernel
theorem dX11_sign_35 : decode cX11_sign 35 = .ok (.goto 4, 3) := by decide +kernel
theorem dX11_sign_38 : decode cX11_sign 38 = .ok (.iconst 1, 1) := by decide +kernel
theorem dX11_sign_39 : decode cX11_sign 39 = .ok (.iadd, 1) := by decide +kernel
theorem dX11_sign_40 : decode cX11_sign 40 = .ok (.putfield 80, 3) := by decide +kernel
theorem dX11_sign_43 : decode cX11_sign 43 = .ok (.return_, 1) := by decide +kernel
theorem dX11_digit_0 : decode cX11_digit 0 = .ok (.aload_n 0, 1) := by decide +kernel
theorem dX11_digit_1 : decode cX11_digit 1 = .ok (.invokevirtual 86, 3) := by decide +kernel
theorem dX11_digit_4 : decode cX11_digit 4 = .ok (.bipush 48, 2) := by decide +kernel
theorem dX11_digit_6 : decode cX11_digit 6 = .ok (.isub, 1) := by decide +kernel
theorem dX11_digit_7 : decode cX11_digit 7 = .ok (.istore_n 3, 1) := by decide +kernel
theorem dX11_digit_8 : decode cX11_digit 8 = .ok (.aload_n 0, 1) := by decide +kernel
theorem dX11_digit_9 : decode cX11_digit 9 = .ok (.dup, 1) := by decide +kernel
theorem dX11_digit_10 : decode cX11_digit 10 = .ok (.getfield 83, 3) := by decide +kernel
theorem dX11_digit_13 : decode cX11_digit 13 = .ok (.iload_n 3, 1) := by decide +kernel
theorem dX11_digit_14 : decode cX11_digit 14 = .ok (.iload_n 1, 1) := by decide +kernel
theorem dX11_digit_15 : decode cX11_digit 15 = .ok (.iload_n 2, 1) := by decide +kernel
theorem dX11_digit_16 : decode cX11_digit 16 = .ok (.invokestatic 44, 3) := by decide +kernel
theorem dX11_digit_19 : decode cX11_digit 19 = .ok (.ifCond .ne 7, 3) := by decide +kernel
theorem dX11_digit_22 : decode cX11_digit 22 = .ok (.iconst 1, 1) := by decide +kernel
theorem dX11_digit_23 : decode cX11_digit 23 = .ok (.goto 4, 3) := by decide +kernel
theorem dX11_digit_26 : decode cX11_digit 26 = .ok (.iconst 0, 1) := by decide +kernel
theorem dX11_digit_27 : decode cX11_digit 27 = .ok (.ior, 1) := by decide +kernel
theorem dX11_digit_28 : decode cX11_digit 28 = .ok (.putfield 83, 3) := by decide +kernel
theorem dX11_digit_31 : decode cX11_digit 31 = .ok (.aload_n 0, 1) := by decide +kernel
theorem dX11_digit_32 : decode cX11_digit 32 = .ok (.dup, 1) := by decide +kernel
theorem dX11_digit_33 : decode cX11_digit 33 = .ok (.getfield 80, 3) := by decide +kernel
theorem dX11_digit_36 : decode cX11_digit 36 = .ok (.aload_n 0, 1) := by decide +kernel
theorem dX11_digit_37 : decode cX11_digit 37 = .ok (.getfield 83, 3) := by decide +kernel
theorem dX11_digit_40 : decode cX11_digit 40 = .ok (.ifCond .eq 7, 3) := by decide +kernel
theorem dX11_digit_43 : decode cX11_digit 43 = .ok (.iconst 0, 1) := by decide +kernel
theorem dX11_digit_44 : decode cX11_digit 44 = .ok (.goto 4, 3) := by decide +kernel
theorem dX11_digit_47 : decode cX11_digit 47 = .ok (.iconst 1, 1) := by decide +kernel
theorem dX11_digit_48 : decode cX11_digit 48 = .ok (.iadd, 1) := by decide +kernel
theorem dX11_digit_49 : decode cX11_digit 49 = .ok (.putfield 80, 3) := by decide +kernel
theorem dX11_digit_52 : decode cX11_digit 52 = .ok (.aload_n 0, 1) := by decide +kernel
theorem dX11_digit_53 : decode cX11_digit 53 = .ok (.getfield 83, 3) := by decide +kernel
theorem dX11_digit_56 : decode cX11_digit 56 = .ok (.ifCond .eq 7, 3) := by decide +kernel
theorem dX11_digit_59 : decode cX11_digit 59 = .ok (.iconst 0, 1) := by decide +kernel
theorem dX11_digit_60 : decode cX11_digit 60 = .ok (.goto 4, 3) := by decide +kernel
theorem dX11_digit_63 : decode cX11_digit 63 = .ok (.iload_n 3, 1) := by decide +kernel
theorem dX11_digit_64 : decode cX11_digit 64 = .ok (.ireturn, 1) := by decide +kernel
theorem dX11_target_0 : decode cX11_target 0 = .ok (.aload_n 0, 1) := by decide +kernel
theorem dX11_target_1 : decode cX11_target 1 = .ok (.getfield 34, 3) := by decide +kernel
theorem dX11_target_4 : decode cX11_target 4 = .ok (.bipush 43, 2) := by decide +kernel
theorem dX11_target_6 : decode cX11_target 6 = .ok (.iaload, 1) := by decide +kernel
theorem dX11_target_7 : decode cX11_target 7 = .ok (.istore_n 1, 1) := by decide +kernel
theorem dX11_target_8 : decode cX11_target 8 = .ok (.aload_n 0, 1) := by decide +kernel
theorem dX11_target_9 : decode cX11_target 9 = .ok (.invokevirtual 86, 3) := by decide +kernel
theorem dX11_target_12 : decode cX11_target 12 = .ok (.bipush 48, 2) := by decide +kernel
theorem dX11_target_14 : decode cX11_target 14 = .ok (.isub, 1) := by decide +kernel
theorem dX11_target_15 : decode cX11_target 15 = .ok (.istore_n 2, 1) := by decide +kernel
theorem dX11_target_16 : decode cX11_target 16 = .ok (.aload_n 0, 1) := by decide +kernel
theorem dX11_target_17 : decode cX11_target 17 = .ok (.dup, 1) := by decide +kernel
theorem dX11_target_18 : decode cX11_target 18 = .ok (.getfield 83, 3) := by decide +kernel
theorem dX11_target_21 : decode cX11_target 21 = .ok (.iload_n 2, 1) := by decide +kernel
theorem dX11_target_22 : decode cX11_target 22 = .ok (.iconst 0, 1) := by decide +kernel
theorem dX11_target_23 : decode cX11_target 23 = .ok (.iconst 3, 1) := by decide +kernel
theorem dX11_target_24 : decode cX11_target 24 = .ok (.invokestatic 44, 3) := by decide +kernel
theorem dX11_target_27 : decode cX11_target 27 = .ok (.ifCond .ne 7, 3) := by decide +kernel
theorem dX11_target_30 : decode cX11_target 30 = .ok (.iconst 1, 1) := by decide +kernel
theorem dX11_target_31 : decode cX11_target 31 = .ok (.goto 4, 3) := by decide +kernel
theorem dX11_target_34 : decode cX11_target 34 = .ok (.iconst 0, 1) := by decide +kernel
theorem dX11_target_35 : decode cX11_target 35 = .ok (.ior, 1) := by decide +kernel
theorem dX11_target_36 : decode cX11_target 36 = .ok (.putfield 83, 3) := by decide +kernel
theorem dX11_target_39 : decode cX11_target 39 = .ok (.iconst 0, 1) := by decide +kernel
theorem dX11_target_40 : decode cX11_target 40 = .ok (.istore_n 3, 1) := by decide +kernel
theorem dX11_target_41 : decode cX11_target 41 = .ok (.iload_n 3, 1) := by decide +kernel
theorem dX11_target_42 : decode cX11_target 42 = .ok (.iload_n 1, 1) := by decide +kernel
theorem dX11_target_43 : decode cX11_target 43 = .ok (.if_icmp .ge 38, 3) := by decide +kernel
theorem dX11_target_46 : decode cX11_target 46 = .ok (.aload_n 0, 1) := by decide +kernel
theorem dX11_target_47 : decode cX11_target 47 = .ok (.dup, 1) := by decide +kernel
theorem dX11_target_48 : decode cX11_target 48 = .ok (.getfield 83, 3) := by decide +kernel
theorem dX11_target_51 : decode cX11_target 51 = .ok (.aload_n 0, 1) := by decide +kernel
theorem dX11_target_52 : decode cX11_target 52 = .ok (.getfield 34, 3) := by decide +kernel
theorem dX11_target_55 : decode cX11_target 55 = .ok (.bipush 44, 2) := by decide +kernel
theorem dX11_target_57 : decode cX11_target 57 = .ok (.iconst 4, 1) := by decide +kernel
theorem dX11_target_58 : decode cX11_target 58 = .ok (.iload_n 3, 1) := by decide +kernel
theorem dX11_target_59 : decode cX11_target 59 = .ok (.imul, 1) := by decide +kernel
theorem dX11_target_60 : decode cX11_target 60 = .ok (.iadd, 1) := by decide +kernel
theorem dX11_target_61 : decode cX11_target 61 = .ok (.iaload, 1) := by decide +kernel
theorem dX11_target_62 : decode cX11_target 62 = .ok (.iload_n 2, 1) := by decide +kernel
theorem dX11_target_63 : decode cX11_target 63 = .ok (.if_icmp .ne 7, 3) := by decide +kernel
theorem dX11_target_66 : decode cX11_target 66 = .ok (.iconst 1, 1) := by decide +kernel
theorem dX11_target_67 : decode cX11_target 67 = .ok (.goto 4, 3) := by decide +kernel
theorem dX11_target_70 : decode cX11_target 70 = .ok (.iconst 0, 1) := by decide +kernel
theorem dX11_target_71 : decode cX11_target 71 = .ok (.ior, 1) := by decide +kernel
theorem dX11_target_72 : decode cX11_target 72 = .ok (.putfield 83, 3) := by decide +kernel
theorem dX11_target_75 : decode cX11_target 75 = .ok (.iinc 3 1, 3) := by decide +kernel
theorem dX11_target_78 : decode cX11_target 78 = .ok (.goto (-37), 3) := by decide +kernel
theorem dX11_target_81 : decode cX11_target 81 = .ok (.aload_n 0, 1) := by decide +kernel
theorem dX11_target_82 : decode cX11_target 82 = .ok (.getfield 83, 3) := by decide +kernel
theorem dX11_target_85 : decode cX11_target 85 = .ok (.ifCond .eq 4, 3) := by decide +kernel
theorem dX11_target_88 : decode cX11_target 88 = .ok (.return_, 1) := by decide +kernel
theorem dX11_target_89 : decode cX11_target 89 = .ok (.aload_n 0, 1) := by decide +kernel
theorem dX11_target_90 : decode cX11_target 90 = .ok (.dup, 1) := by decide +kernel
theorem dX11_target_91 : decode cX11_target 91 = .ok (.getfield 80, 3) := by decide +kernel
theorem dX11_target_94 : decode cX11_target 94 = .ok (.iconst 1, 1) := by decide +kernel
theorem dX11_target_95 : decode cX11_target 95 = .ok (.iadd, 1) := by decide +kernel
theorem dX11_target_96 : decode cX11_target 96 = .ok (.putfield 80, 3) := by decide +kernel
theorem dX11_target_99 : decode cX11_target 99 = .ok (.aload_n 0, 1) := by decide +kernel
theorem dX11_target_100 : decode cX11_target 100 = .ok (.getfield 34, 3) := by decide +kernel
theorem dX11_target_103 : decode cX11_target 103 = .ok (.bipush 44, 2) := by decide +kernel
theorem dX11_target_105 : decode cX11_target 105 = .ok (.iconst 4, 1) := by decide +kernel
theorem dX11_target_106 : decode cX11_target 106 = .ok (.iload_n 1, 1) := by decide +kernel
theorem dX11_target_107 : decode cX11_target 107 = .ok (.imul, 1) := by decide +kernel
theorem dX11_target_108 : decode cX11_target 108 = .ok (.iadd, 1) := by decide +kernel
theorem dX11_target_109 : decode cX11_target 109 = .ok (.iload_n 2, 1) := by decide +kernel
theorem dX11_target_110 : decode cX11_target 110 = .ok (.iastore, 1) := by decide +kernel
theorem dX11_target_111 : decode cX11_target 111 = .ok (.aload_n 0, 1) := by decide +kernel
theorem dX11_target_112 : decode cX11_target 112 = .ok (.getfield 34, 3) := by decide +kernel
theorem dX11_target_115 : decode cX11_target 115 = .ok (.bipush 44, 2) := by decide +kernel
theorem dX11_target_117 : decode cX11_target 117 = .ok (.iconst 4, 1) := by decide +kernel
theorem dX11_target_118 : decode cX11_target 118 = .ok (.iload_n 1, 1) := by decide +kernel
theorem dX11_target_119 : decode cX11_target 119 = .ok (.imul, 1) := by decide +kernel
theorem dX11_target_120 : decode cX11_target 120 = .ok (.iadd, 1) := by decide +kernel
theorem dX11_target_121 : decode cX11_target 121 = .ok (.iconst 1, 1) := by decide +kernel
theorem dX11_target_122 : decode cX11_target 122 = .ok (.iadd, 1) := by decide +kernel
theorem dX11_target_123 : decode cX11_target 123 = .ok (.iconst 1, 1) := by decide +kernel
theorem dX11_target_124 : decode cX11_target 124 = .ok (.iastore, 1) := by decide +kernel
theorem dX11_target_125 : decode cX11_target 125 = .ok (.aload_n 0, 1) := by decide +kernel
theorem dX11_target_126 : decode cX11_target 126 = .ok (.invokevirtual 86, 3) := by decide +kernel
theorem dX11_target_129 : decode cX11_target 129 = .ok (.bipush 58, 2) := by decide +kernel
theorem dX11_target_131 : decode cX11_target 131 = .ok (.if_icmp .ne 33, 3) := by decide +kernel
theorem dX11_target_134 : decode cX11_target 134 = .ok (.aload_n 0, 1) := by decide +kernel
theorem dX11_target_135 : decode cX11_target 135 = .ok (.dup, 1) := by decide +kernel
theorem dX11_target_136 : decode cX11_target 136 = .ok (.getfield 80, 3) := by decide +kernel
theorem dX11_target_139 : decode cX11_target 139 = .ok (.iconst 1, 1) := by decide +kernel
theorem dX11_target_140 : decode cX11_target 140 = .ok (.iadd, 1) := by decide +kernel
theorem dX11_target_141 : decode cX11_target 141 = .ok (.putfield 80, 3) := by decide +kernel
theorem dX11_target_144 : decode cX11_target 144 = .ok (.aload_n 0, 1) := by decide +kernel
theorem dX11_target_145 : decode cX11_target 145 = .ok (.getfield 34, 3) := by decide +kernel
theorem dX11_target_148 : decode cX11_target 148 = .ok (.bipush 44, 2) := by decide +kernel
theorem dX11_target_150 : decode cX11_target 150 = .ok (.iconst 4, 1) := by decide +kernel
theorem dX11_target_151 : decode cX11_target 151 = .ok (.iload_n 1, 1) := by decide +kernel
theorem dX11_target_152 : decode cX11_target 152 = .ok (.imul, 1) := by decide +kernel
theorem dX11_target_153 : decode cX11_target 153 = .ok (.iadd, 1) := by decide +kernel
theorem dX11_target_154 : decode cX11_target 154 = .ok (.iconst 1, 1) := by decide +kernel
theorem dX11_target_155 : decode cX11_target 155 = .ok (.iadd, 1) := by decide +kernel
theorem dX11_target_156 : decode cX11_target 156 = .ok (.aload_n 0, 1) := by decide +kernel
theorem dX11_target_157 : decode cX11_target 157 = .ok (.iconst 1, 1) := by decide +kernel
theorem dX11_target_158 : decode cX11_target 158 = .ok (.bipush 9, 2) := by decide +kernel
theorem dX11_target_160 : decode cX11_target 160 = .ok (.invokevirtual 90, 3) := by decide +kernel
theorem dX11_target_163 : decode cX11_target 163 = .ok (.iastore, 1) := by decide +kernel
theorem dX11_target_164 : decode cX11_target 164 = .ok (.aload_n 0, 1) := by decide +kernel
theorem dX11_target_165 : decode cX11_target 165 = .ok (.getfield 34, 3) := by decide +kernel
theorem dX11_target_168 : decode cX11_target 168 = .ok (.bipush 43, 2) := by decide +kernel
theorem dX11_target_170 : decode cX11_target 170 = .ok (.dup2, 1) := by decide +kernel
theorem dX11_target_171 : decode cX11_target 171 = .ok (.iaload, 1) := by decide +kernel
theorem dX11_target_172 : decode cX11_target 172 = .ok (.iconst 1, 1) := by decide +kernel
theorem dX11_target_173 : decode cX11_target 173 = .ok (.iadd, 1) := by decide +kernel
theorem dX11_target_174 : decode cX11_target 174 = .ok (.iastore, 1) := by decide +kernel
theorem dX11_target_175 : decode cX11_target 175 = .ok (.return_, 1) := by decide +kernel
theorem dX11_reads_0 : decode cX11_reads 0 = .ok (.iconst 0, 1) := by decide +kernel
theorem dX11_reads_1 : decode cX11_reads 1 = .ok (.istore_n 1, 1) := by decide +kernel
theorem dX11_reads_2 : decode cX11_reads 2 = .ok (.iload_n 1, 1) := by decide +kernel
theorem dX11_reads_3 : decode cX11_reads 3 = .ok (.bipush 58, 2) := by decide +kernel
theorem dX11_reads_5 : decode cX11_reads 5 = .ok (.if_icmp .ge 16, 3) := by decide +kernel
theorem dX11_reads_8 : decode cX11_reads 8 = .ok (.aload_n 0, 1) := by decide +kernel
theorem dX11_reads_9 : decode cX11_reads 9 = .ok (.getfield 34, 3) := by decide +kernel
theorem dX11_reads_12 : decode cX11_reads 12 = .ok (.iload_n 1, 1) := by decide +kernel
theorem dX11_reads_13 : decode cX11_reads 13 = .ok (.iconst 0, 1) := by decide +kernel
theorem dX11_reads_14 : decode cX11_reads 14 = .ok (.iastore, 1) := by decide +kernel
theorem dX11_reads_15 : decode cX11_reads 15 = .ok (.iinc 1 1, 3) := by decide +kernel
theorem dX11_reads_18 : decode cX11_reads 18 = .ok (.goto (-16), 3) := by decide +kernel
theorem dX11_reads_21 : decode cX11_reads 21 = .ok (.aload_n 0, 1) := by decide +kernel
theorem dX11_reads_22 : decode cX11_reads 22 = .ok (.getfield 34, 3) := by decide +kernel
theorem dX11_reads_25 : decode cX11_reads 25 = .ok (.bipush 42, 2) := by decide +kernel
theorem dX11_reads_27 : decode cX11_reads 27 = .ok (.bipush 9, 2) := by decide +kernel
theorem dX11_reads_29 : decode cX11_reads 29 = .ok (.iastore, 1) := by decide +kernel
theorem dX11_reads_30 : decode cX11_reads 30 = .ok (.aload_n 0, 1) := by decide +kernel
theorem dX11_reads_31 : decode cX11_reads 31 = .ok (.getfield 34, 3) := by decide +kernel
theorem dX11_reads_34 : decode cX11_reads 34 = .ok (.bipush 56, 2) := by decide +kernel
theorem dX11_reads_36 : decode cX11_reads 36 = .ok (.iconst 1, 1) := by decide +kernel
theorem dX11_reads_37 : decode cX11_reads 37 = .ok (.iastore, 1) := by decide +kernel
theorem dX11_reads_38 : decode cX11_reads 38 = .ok (.aload_n 0, 1) := by decide +kernel
theorem dX11_reads_39 : decode cX11_reads 39 = .ok (.getfield 34, 3) := by decide +kernel
theorem dX11_reads_42 : decode cX11_reads 42 = .ok (.bipush 57, 2) := by decide +kernel
theorem dX11_reads_44 : decode cX11_reads 44 = .ok (.iconst (-1), 1) := by decide +kernel
theorem dX11_reads_45 : decode cX11_reads 45 = .ok (.iastore, 1) := by decide +kernel
theorem dX11_reads_46 : decode cX11_reads 46 = .ok (.aload_n 0, 1) := by decide +kernel
theorem dX11_reads_47 : decode cX11_reads 47 = .ok (.aload_n 0, 1) := by decide +kernel
theorem dX11_reads_48 : decode cX11_reads 48 = .ok (.invokevirtual 86, 3) := by decide +kernel
theorem dX11_reads_51 : decode cX11_reads 51 = .ok (.bipush 47, 2) := by decide +kernel
theorem dX11_reads_53 : decode cX11_reads 53 = .ok (.if_icmp .eq 7, 3) := by decide +kernel
theorem dX11_reads_56 : decode cX11_reads 56 = .ok (.iconst 1, 1) := by decide +kernel
theorem dX11_reads_57 : decode cX11_reads 57 = .ok (.goto 4, 3) := by decide +kernel
theorem dX11_reads_60 : decode cX11_reads 60 = .ok (.iconst 0, 1) := by decide +kernel
theorem dX11_reads_61 : decode cX11_reads 61 = .ok (.putfield 83, 3) := by decide +kernel
theorem dX11_reads_64 : decode cX11_reads 64 = .ok (.aload_n 0, 1) := by decide +kernel
theorem dX11_reads_65 : decode cX11_reads 65 = .ok (.getfield 83, 3) := by decide +kernel
theorem dX11_reads_68 : decode cX11_reads 68 = .ok (.ifCond .ne 64, 3) := by decide +kernel
theorem dX11_reads_71 : decode cX11_reads 71 = .ok (.aload_n 0, 1) := by decide +kernel
theorem dX11_reads_72 : decode cX11_reads 72 = .ok (.getfield 80, 3) := by decide +kernel
theorem dX11_reads_75 : decode cX11_reads 75 = .ok (.aload_n 0, 1) := by decide +kernel
theorem dX11_reads_76 : decode cX11_reads 76 = .ok (.getfield 74, 3) := by decide +kernel
theorem dX11_reads_79 : decode cX11_reads 79 = .ok (.if_icmp .ge 53, 3) := by decide +kernel
theorem dX11_reads_82 : decode cX11_reads 82 = .ok (.aload_n 0, 1) := by decide +kernel
theorem dX11_reads_83 : decode cX11_reads 83 = .ok (.invokevirtual 86, 3) := by decide +kernel
theorem dX11_reads_86 : decode cX11_reads 86 = .ok (.invokestatic 77, 3) := by decide +kernel
theorem dX11_reads_89 : decode cX11_reads 89 = .ok (.ifCond .eq 43, 3) := by decide +kernel
theorem dX11_reads_92 : decode cX11_reads 92 = .ok (.aload_n 0, 1) := by decide +kernel
theorem dX11_reads_93 : decode cX11_reads 93 = .ok (.getfield 34, 3) := by decide +kernel
theorem dX11_reads_96 : decode cX11_reads 96 = .ok (.iconst 1, 1) := by decide +kernel
theorem dX11_reads_97 : decode cX11_reads 97 = .ok (.aload_n 0, 1) := by decide +kernel
theorem dX11_reads_98 : decode cX11_reads 98 = .ok (.getfield 34, 3) := by decide +kernel
theorem dX11_reads_101 : decode cX11_reads 101 = .ok (.iconst 0, 1) := by decide +kernel
theorem dX11_reads_102 : decode cX11_reads 102 = .ok (.iaload, 1) := by decide +kernel
theorem dX11_reads_103 : decode cX11_reads 103 = .ok (.iadd, 1) := by decide +kernel
theorem dX11_reads_104 : decode cX11_reads 104 = .ok (.aload_n 0, 1) := by decide +kernel
theorem dX11_reads_105 : decode cX11_reads 105 = .ok (.invokevirtual 86, 3) := by decide +kernel
theorem dX11_reads_108 : decode cX11_reads 108 = .ok (.iastore, 1) := by decide +kernel
theorem dX11_reads_109 : decode cX11_reads 109 = .ok (.aload_n 0, 1) := by decide +kernel
theorem dX11_reads_110 : decode cX11_reads 110 = .ok (.getfield 34, 3) := by decide +kernel
theorem dX11_reads_113 : decode cX11_reads 113 = .ok (.iconst 0, 1) := by decide +kernel
theorem dX11_reads_114 : decode cX11_reads 114 = .ok (.dup2, 1) := by decide +kernel
theorem dX11_reads_115 : decode cX11_reads 115 = .ok (.iaload, 1) := by decide +kernel
theorem dX11_reads_116 : decode cX11_reads 116 = .ok (.iconst 1, 1) := by decide +kernel
theorem dX11_reads_117 : decode cX11_reads 117 = .ok (.iadd, 1) := by decide +kernel
theorem dX11_reads_118 : decode cX11_reads 118 = .ok (.iastore, 1) := by decide +kernel
theorem dX11_reads_119 : decode cX11_reads 119 = .ok (.aload_n 0, 1) := by decide +kernel
theorem dX11_reads_120 : decode cX11_reads 120 = .ok (.dup, 1) := by decide +kernel
theorem dX11_reads_121 : decode cX11_reads 121 = .ok (.getfield 80, 3) := by decide +kernel
theorem dX11_reads_124 : decode cX11_reads 124 = .ok (.iconst 1, 1) := by decide +kernel
theorem dX11_reads_125 : decode cX11_reads 125 = .ok (.iadd, 1) := by decide +kernel
theorem dX11_reads_126 : decode cX11_reads 126 = .ok (.putfield 80, 3) := by decide +kernel
theorem dX11_reads_129 : decode cX11_reads 129 = .ok (.goto (-65), 3) := by decide +kernel
theorem dX11_reads_132 : decode cX11_reads 132 = .ok (.aload_n 0, 1) := by decide +kernel
theorem dX11_reads_133 : decode cX11_reads 133 = .ok (.getfield 83, 3) := by decide +kernel
theorem dX11_reads_136 : decode cX11_reads 136 = .ok (.ifCond .ne 89, 3) := by decide +kernel
theorem dX11_reads_139 : decode cX11_reads 139 = .ok (.aload_n 0, 1) := by decide +kernel
theorem dX11_reads_140 : decode cX11_reads 140 = .ok (.invokevirtual 86, 3) := by decide +kernel
theorem dX11_reads_143 : decode cX11_reads 143 = .ok (.bipush 91, 2) := by decide +kernel
theorem dX11_reads_145 : decode cX11_reads 145 = .ok (.if_icmp .ne 80, 3) := by decide +kernel
theorem dX11_reads_148 : decode cX11_reads 148 = .ok (.aload_n 0, 1) := by decide +kernel
theorem dX11_reads_149 : decode cX11_reads 149 = .ok (.dup, 1) := by decide +kernel
theorem dX11_reads_150 : decode cX11_reads 150 = .ok (.getfield 80, 3) := by decide +kernel
theorem dX11_reads_153 : decode cX11_reads 153 = .ok (.iconst 1, 1) := by decide +kernel
theorem dX11_reads_154 : decode cX11_reads 154 = .ok (.iadd, 1) := by decide +kernel
theorem dX11_reads_155 : decode cX11_reads 155 = .ok (.putfield 80, 3) := by decide +kernel
theorem dX11_reads_158 : decode cX11_reads 158 = .ok (.aload_n 0, 1) := by decide +kernel
theorem dX11_reads_159 : decode cX11_reads 159 = .ok (.getfield 34, 3) := by decide +kernel
theorem dX11_reads_162 : decode cX11_reads 162 = .ok (.bipush 41, 2) := by decide +kernel
theorem dX11_reads_164 : decode cX11_reads 164 = .ok (.aload_n 0, 1) := by decide +kernel
theorem dX11_reads_165 : decode cX11_reads 165 = .ok (.iconst 0, 1) := by decide +kernel
theorem dX11_reads_166 : decode cX11_reads 166 = .ok (.bipush 9, 2) := by decide +kernel
theorem dX11_reads_168 : decode cX11_reads 168 = .ok (.invokevirtual 90, 3) := by decide +kernel
theorem dX11_reads_171 : decode cX11_reads 171 = .ok (.iastore, 1) := by decide +kernel
theorem dX11_reads_172 : decode cX11_reads 172 = .ok (.aload_n 0, 1) := by decide +kernel
theorem dX11_reads_173 : decode cX11_reads 173 = .ok (.getfield 83, 3) := by decide +kernel
theorem dX11_reads_176 : decode cX11_reads 176 = .ok (.ifCond .ne 9, 3) := by decide +kernel
theorem dX11_reads_179 : decode cX11_reads 179 = .ok (.aload_n 0, 1) := by decide +kernel
theorem dX11_reads_180 : decode cX11_reads 180 = .ok (.bipush 45, 2) := by decide +kernel
theorem dX11_reads_182 : decode cX11_reads 182 = .ok (.invokevirtual 93, 3) := by decide +kernel
theorem dX11_reads_185 : decode cX11_reads 185 = .ok (.aload_n 0, 1) := by decide +kernel
theorem dX11_reads_186 : decode cX11_reads 186 = .ok (.getfield 83, 3) := by decide +kernel
theorem dX11_reads_189 : decode cX11_reads 189 = .ok (.ifCond .ne 23, 3) := by decide +kernel
theorem dX11_reads_192 : decode cX11_reads 192 = .ok (.aload_n 0, 1) := by decide +kernel
theorem dX11_reads_193 : decode cX11_reads 193 = .ok (.getfield 34, 3) := by decide +kernel
theorem dX11_reads_196 : decode cX11_reads 196 = .ok (.bipush 42, 2) := by decide +kernel
theorem dX11_reads_198 : decode cX11_reads 198 = .ok (.aload_n 0, 1) := by decide +kernel
theorem dX11_reads_199 : decode cX11_reads 199 = .ok (.aload_n 0, 1) := by decide +kernel
theorem dX11_reads_200 : decode cX11_reads 200 = .ok (.getfield 34, 3) := by decide +kernel
theorem dX11_reads_203 : decode cX11_reads 203 = .ok (.bipush 41, 2) := by decide +kernel
theorem dX11_reads_205 : decode cX11_reads 205 = .ok (.iaload, 1) := by decide +kernel
theorem dX11_reads_206 : decode cX11_reads 206 = .ok (.bipush 9, 2) := by decide +kernel
theorem dX11_reads_208 : decode cX11_reads 208 = .ok (.invokevirtual 90, 3) := by decide +kernel
theorem dX11_reads_211 : decode cX11_reads 211 = .ok (.iastore, 1) := by decide +kernel
theorem dX11_reads_212 : decode cX11_reads 212 = .ok (.aload_n 0, 1) := by decide +kernel
theorem dX11_reads_213 : decode cX11_reads 213 = .ok (.getfield 83, 3) := by decide +kernel
theorem dX11_reads_216 : decode cX11_reads 216 = .ok (.ifCond .ne 9, 3) := by decide +kernel
theorem dX11_reads_219 : decode cX11_reads 219 = .ok (.aload_n 0, 1) := by decide +kernel
theorem dX11_reads_220 : decode cX11_reads 220 = .ok (.bipush 93, 2) := by decide +kernel
theorem dX11_reads_222 : decode cX11_reads 222 = .ok (.invokevirtual 93, 3) := by decide +kernel
theorem dX11_reads_225 : decode cX11_reads 225 = .ok (.aload_n 0, 1) := by decide +kernel
theorem dX11_reads_226 : decode cX11_reads 226 = .ok (.getfield 83, 3) := by decide +kernel
theorem dX11_reads_229 : decode cX11_reads 229 = .ok (.ifCond .ne 9, 3) := by decide +kernel
theorem dX11_reads_232 : decode cX11_reads 232 = .ok (.aload_n 0, 1) := by decide +kernel
theorem dX11_reads_233 : decode cX11_reads 233 = .ok (.bipush 61, 2) := by decide +kernel
theorem dX11_reads_235 : decode cX11_reads 235 = .ok (.invokevirtual 93, 3) := by decide +kernel
theorem dX11_reads_238 : decode cX11_reads 238 = .ok (.aload_n 0, 1) := by decide +kernel
theorem dX11_reads_239 : decode cX11_reads 239 = .ok (.getfield 83, 3) := by decide +kernel
theorem dX11_reads_242 : decode cX11_reads 242 = .ok (.ifCond .ne 7, 3) := by decide +kernel
theorem dX11_reads_245 : decode cX11_reads 245 = .ok (.iconst 1, 1) := by decide +kernel
theorem dX11_reads_246 : decode cX11_reads 246 = .ok (.goto 4, 3) := by decide +kernel
theorem dX11_reads_249 : decode cX11_reads 249 = .ok (.iconst 0, 1) := by decide +kernel
theorem dX11_reads_250 : decode cX11_reads 250 = .ok (.istore_n 1, 1) := by decide +kernel
theorem dX11_reads_251 : decode cX11_reads 251 = .ok (.iload_n 1, 1) := by decide +kernel
theorem dX11_reads_252 : decode cX11_reads 252 = .ok (.ifCond .eq 61, 3) := by decide +kernel
theorem dX11_reads_255 : decode cX11_reads 255 = .ok (.aload_n 0, 1) := by decide +kernel
theorem dX11_reads_256 : decode cX11_reads 256 = .ok (.invokevirtual 97, 3) := by decide +kernel
theorem dX11_reads_259 : decode cX11_reads 259 = .ok (.aload_n 0, 1) := by decide +kernel
theorem dX11_reads_260 : decode cX11_reads 260 = .ok (.getfield 83, 3) := by decide +kernel
theorem dX11_reads_263 : decode cX11_reads 263 = .ok (.ifCond .ne 27, 3) := by decide +kernel
theorem dX11_reads_266 : decode cX11_reads 266 = .ok (.aload_n 0, 1) := by decide +kernel
theorem dX11_reads_267 : decode cX11_reads 267 = .ok (.invokevirtual 86, 3) := by decide +kernel
theorem dX11_reads_270 : decode cX11_reads 270 = .ok (.bipush 44, 2) := by decide +kernel
theorem dX11_reads_272 : decode cX11_reads 272 = .ok (.if_icmp .ne 18, 3) := by decide +kernel
theorem dX11_reads_275 : decode cX11_reads 275 = .ok (.aload_n 0, 1) := by decide +kernel
theorem dX11_reads_276 : decode cX11_reads 276 = .ok (.getfield 34, 3) := by decide +kernel
theorem dX11_reads_279 : decode cX11_reads 279 = .ok (.bipush 43, 2) := by decide +kernel
theorem dX11_reads_281 : decode cX11_reads 281 = .ok (.iaload, 1) := by decide +kernel
theorem dX11_reads_282 : decode cX11_reads 282 = .ok (.iconst 3, 1) := by decide +kernel
theorem dX11_reads_283 : decode cX11_reads 283 = .ok (.if_icmp .ge 7, 3) := by decide +kernel
theorem dX11_reads_286 : decode cX11_reads 286 = .ok (.iconst 1, 1) := by decide +kernel
theorem dX11_reads_287 : decode cX11_reads 287 = .ok (.goto 4, 3) := by decide +kernel
theorem dX11_reads_290 : decode cX11_reads 290 = .ok (.iconst 0, 1) := by decide +kernel
theorem dX11_reads_291 : decode cX11_reads 291 = .ok (.istore_n 1, 1) := by decide +kernel
theorem dX11_reads_292 : decode cX11_reads 292 = .ok (.aload_n 0, 1) := by decide +kernel
theorem dX11_reads_293 : decode cX11_reads 293 = .ok (.dup, 1) := by decide +kernel
theorem dX11_reads_294 : decode cX11_reads 294 = .ok (.getfield 80, 3) := by decide +kernel
theorem dX11_reads_297 : decode cX11_reads 297 = .ok (.iload_n 1, 1) := by decide +kernel
theorem dX11_reads_298 : decode cX11_reads 298 = .ok (.ifCond .eq 7, 3) := by decide +kernel
theorem dX11_reads_301 : decode cX11_reads 301 = .ok (.iconst 1, 1) := by decide +kernel
theorem dX11_reads_302 : decode cX11_reads 302 = .ok (.goto 4, 3) := by decide +kernel
theorem dX11_reads_305 : decode cX11_reads 305 = .ok (.iconst 0, 1) := by decide +kernel
theorem dX11_reads_306 : decode cX11_reads 306 = .ok (.iadd, 1) := by decide +kernel
theorem dX11_reads_307 : decode cX11_reads 307 = .ok (.putfield 80, 3) := by decide +kernel
theorem dX11_reads_310 : decode cX11_reads 310 = .ok (.goto (-59), 3) := by decide +kernel
theorem dX11_reads_313 : decode cX11_reads 313 = .ok (.aload_n 0, 1) := by decide +kernel
theorem dX11_reads_314 : decode cX11_reads 314 = .ok (.getfield 83, 3) := by decide +kernel
theorem dX11_reads_317 : decode cX11_reads 317 = .ok (.ifCond .ne 35, 3) := by decide +kernel
theorem dX11_reads_320 : decode cX11_reads 320 = .ok (.aload_n 0, 1) := by decide +kernel
theorem dX11_reads_321 : decode cX11_reads 321 = .ok (.invokevirtual 86, 3) := by decide +kernel
theorem dX11_reads_324 : decode cX11_reads 324 = .ok (.bipush 126, 2) := by decide +kernel
theorem dX11_reads_326 : decode cX11_reads 326 = .ok (.if_icmp .ne 26, 3) := by decide +kernel
theorem dX11_reads_329 : decode cX11_reads 329 = .ok (.aload_n 0, 1) := by decide +kernel
theorem dX11_reads_330 : decode cX11_reads 330 = .ok (.dup, 1) := by decide +kernel
theorem dX11_reads_331 : decode cX11_reads 331 = .ok (.getfield 80, 3) := by decide +kernel
theorem dX11_reads_334 : decode cX11_reads 334 = .ok (.iconst 1, 1) := by decide +kernel
theorem dX11_reads_335 : decode cX11_reads 335 = .ok (.iadd, 1) := by decide +kernel
theorem dX11_reads_336 : decode cX11_reads 336 = .ok (.putfield 80, 3) := by decide +kernel
theorem dX11_reads_339 : decode cX11_reads 339 = .ok (.aload_n 0, 1) := by decide +kernel
theorem dX11_reads_340 : decode cX11_reads 340 = .ok (.getfield 34, 3) := by decide +kernel
theorem dX11_reads_343 : decode cX11_reads 343 = .ok (.bipush 57, 2) := by decide +kernel
theorem dX11_reads_345 : decode cX11_reads 345 = .ok (.aload_n 0, 1) := by decide +kernel
theorem dX11_reads_346 : decode cX11_reads 346 = .ok (.iconst 0, 1) := by decide +kernel
theorem dX11_reads_347 : decode cX11_reads 347 = .ok (.iconst 3, 1) := by decide +kernel
theorem dX11_reads_348 : decode cX11_reads 348 = .ok (.invokevirtual 90, 3) := by decide +kernel
theorem dX11_reads_351 : decode cX11_reads 351 = .ok (.iastore, 1) := by decide +kernel
theorem dX11_reads_352 : decode cX11_reads 352 = .ok (.aload_n 0, 1) := by decide +kernel
theorem dX11_reads_353 : decode cX11_reads 353 = .ok (.getfield 83, 3) := by decide +kernel
theorem dX11_reads_356 : decode cX11_reads 356 = .ok (.ifCond .ne 35, 3) := by decide +kernel
theorem dX11_reads_359 : decode cX11_reads 359 = .ok (.aload_n 0, 1) := by decide +kernel
theorem dX11_reads_360 : decode cX11_reads 360 = .ok (.invokevirtual 86, 3) := by decide +kernel
theorem dX11_reads_363 : decode cX11_reads 363 = .ok (.bipush 42, 2) := by decide +kernel
theorem dX11_reads_365 : decode cX11_reads 365 = .ok (.if_icmp .ne 26, 3) := by decide +kernel
theorem dX11_reads_368 : decode cX11_reads 368 = .ok (.aload_n 0, 1) := by decide +kernel
theorem dX11_reads_369 : decode cX11_reads 369 = .ok (.dup, 1) := by decide +kernel
theorem dX11_reads_370 : decode cX11_reads 370 = .ok (.getfield 80, 3) := by decide +kernel
theorem dX11_reads_373 : decode cX11_reads 373 = .ok (.iconst 1, 1) := by decide +kernel
theorem dX11_reads_374 : decode cX11_reads 374 = .ok (.iadd, 1) := by decide +kernel
theorem dX11_reads_375 : decode cX11_reads 375 = .ok (.putfield 80, 3) := by decide +kernel
theorem dX11_reads_378 : decode cX11_reads 378 = .ok (.aload_n 0, 1) := by decide +kernel
theorem dX11_reads_379 : decode cX11_reads 379 = .ok (.getfield 34, 3) := by decide +kernel
theorem dX11_reads_382 : decode cX11_reads 382 = .ok (.bipush 56, 2) := by decide +kernel
theorem dX11_reads_384 : decode cX11_reads 384 = .ok (.aload_n 0, 1) := by decide +kernel
theorem dX11_reads_385 : decode cX11_reads 385 = .ok (.iconst 1, 1) := by decide +kernel
theorem dX11_reads_386 : decode cX11_reads 386 = .ok (.iconst 4, 1) := by decide +kernel
theorem dX11_reads_387 : decode cX11_reads 387 = .ok (.invokevirtual 90, 3) := by decide +kernel
theorem dX11_reads_390 : decode cX11_reads 390 = .ok (.iastore, 1) := by decide +kernel
theorem dX11_reads_391 : decode cX11_reads 391 = .ok (.aload_n 0, 1) := by decide +kernel
theorem dX11_reads_392 : decode cX11_reads 392 = .ok (.dup, 1) := by decide +kernel
theorem dX11_reads_393 : decode cX11_reads 393 = .ok (.getfield 83, 3) := by decide +kernel
theorem dX11_reads_396 : decode cX11_reads 396 = .ok (.aload_n 0, 1) := by decide +kernel
theorem dX11_reads_397 : decode cX11_reads 397 = .ok (.getfield 80, 3) := by decide +kernel
theorem dX11_reads_400 : decode cX11_reads 400 = .ok (.aload_n 0, 1) := by decide +kernel
theorem dX11_reads_401 : decode cX11_reads 401 = .ok (.getfield 74, 3) := by decide +kernel
theorem dX11_reads_404 : decode cX11_reads 404 = .ok (.if_icmp .ge 7, 3) := by decide +kernel
theorem dX11_reads_407 : decode cX11_reads 407 = .ok (.iconst 1, 1) := by decide +kernel
theorem dX11_reads_408 : decode cX11_reads 408 = .ok (.goto 4, 3) := by decide +kernel
theorem dX11_reads_411 : decode cX11_reads 411 = .ok (.iconst 0, 1) := by decide +kernel
theorem dX11_reads_412 : decode cX11_reads 412 = .ok (.ior, 1) := by decide +kernel
theorem dX11_reads_413 : decode cX11_reads 413 = .ok (.putfield 83, 3) := by decide +kernel
theorem dX11_reads_416 : decode cX11_reads 416 = .ok (.return_, 1) := by decide +kernel
theorem dX11_addRule_0 : decode cX11_addRule 0 = .ok (.aload_n 0, 1) := by decide +kernel
theorem dX11_addRule_1 : decode cX11_addRule 1 = .ok (.iconst 0, 1) := by decide +kernel
theorem dX11_addRule_2 : decode cX11_addRule 2 = .ok (.putfield 80, 3) := by decide +kernel
theorem dX11_addRule_5 : decode cX11_addRule 5 = .ok (.aload_n 0, 1) := by decide +kernel
theorem dX11_addRule_6 : decode cX11_addRule 6 = .ok (.invokevirtual 100, 3) := by decide +kernel
theorem dX11_addRule_9 : decode cX11_addRule 9 = .ok (.aload_n 0, 1) := by decide +kernel
theorem dX11_addRule_10 : decode cX11_addRule 10 = .ok (.iconst 0, 1) := by decide +kernel
theorem dX11_addRule_11 : decode cX11_addRule 11 = .ok (.putfield 74, 3) := by decide +kernel
theorem dX11_addRule_14 : decode cX11_addRule 14 = .ok (.aload_n 0, 1) := by decide +kernel
theorem dX11_addRule_15 : decode cX11_addRule 15 = .ok (.getfield 83, 3) := by decide +kernel
theorem dX11_addRule_18 : decode cX11_addRule 18 = .ok (.ifCond .eq 11, 3) := by decide +kernel
theorem dX11_addRule_21 : decode cX11_addRule 21 = .ok (.bipush (-100), 2) := by decide +kernel
theorem dX11_addRule_23 : decode cX11_addRule 23 = .ok (.aload_n 0, 1) := by decide +kernel
theorem dX11_addRule_24 : decode cX11_addRule 24 = .ok (.getfield 80, 3) := by decide +kernel
theorem dX11_addRule_27 : decode cX11_addRule 27 = .ok (.isub, 1) := by decide +kernel
theorem dX11_addRule_28 : decode cX11_addRule 28 = .ok (.ireturn, 1) := by decide +kernel
theorem dX11_addRule_29 : decode cX11_addRule 29 = .ok (.aload_n 0, 1) := by decide +kernel
theorem dX11_addRule_30 : decode cX11_addRule 30 = .ok (.getfield 9, 3) := by decide +kernel
theorem dX11_addRule_33 : decode cX11_addRule 33 = .ok (.sipush 230, 3) := by decide +kernel
theorem dX11_addRule_36 : decode cX11_addRule 36 = .ok (.iaload, 1) := by decide +kernel
theorem dX11_addRule_37 : decode cX11_addRule 37 = .ok (.bipush 8, 2) := by decide +kernel
theorem dX11_addRule_39 : decode cX11_addRule 39 = .ok (.if_icmp .ne 6, 3) := by decide +kernel
theorem dX11_addRule_42 : decode cX11_addRule 42 = .ok (.bipush (-3), 2) := by decide +kernel
theorem dX11_addRule_44 : decode cX11_addRule 44 = .ok (.ireturn, 1) := by decide +kernel
theorem dX11_addRule_45 : decode cX11_addRule 45 = .ok (.aload_n 0, 1) := by decide +kernel
theorem dX11_addRule_46 : decode cX11_addRule 46 = .ok (.invokevirtual 55, 3) := by decide +kernel
theorem dX11_addRule_49 : decode cX11_addRule 49 = .ok (.iconst 0, 1) := by decide +kernel
theorem dX11_addRule_50 : decode cX11_addRule 50 = .ok (.istore_n 1, 1) := by decide +kernel
theorem dX11_addRule_51 : decode cX11_addRule 51 = .ok (.iload_n 1, 1) := by decide +kernel
theorem dX11_addRule_52 : decode cX11_addRule 52 = .ok (.bipush 58, 2) := by decide +kernel
theorem dX11_addRule_54 : decode cX11_addRule 54 = .ok (.if_icmp .ge 37, 3) := by decide +kernel
theorem dX11_addRule_57 : decode cX11_addRule 57 = .ok (.aload_n 0, 1) := by decide +kernel
theorem dX11_addRule_58 : decode cX11_addRule 58 = .ok (.getfield 9, 3) := by decide +kernel
theorem dX11_addRule_61 : decode cX11_addRule 61 = .ok (.sipush 231, 3) := by decide +kernel
theorem dX11_addRule_64 : decode cX11_addRule 64 = .ok (.bipush 58, 2) := by decide +kernel
theorem dX11_addRule_66 : decode cX11_addRule 66 = .ok (.aload_n 0, 1) := by decide +kernel
theorem dX11_addRule_67 : decode cX11_addRule 67 = .ok (.getfield 9, 3) := by decide +kernel
theorem dX11_addRule_70 : decode cX11_addRule 70 = .ok (.sipush 230, 3) := by decide +kernel
theorem dX11_addRule_73 : decode cX11_addRule 73 = .ok (.iaload, 1) := by decide +kernel
theorem dX11_addRule_74 : decode cX11_addRule 74 = .ok (.imul, 1) := by decide +kernel
theorem dX11_addRule_75 : decode cX11_addRule 75 = .ok (.iadd, 1) := by decide +kernel
theorem dX11_addRule_76 : decode cX11_addRule 76 = .ok (.iload_n 1, 1) := by decide +kernel
theorem dX11_addRule_77 : decode cX11_addRule 77 = .ok (.iadd, 1) := by decide +kernel
theorem dX11_addRule_78 : decode cX11_addRule 78 = .ok (.aload_n 0, 1) := by decide +kernel
theorem dX11_addRule_79 : decode cX11_addRule 79 = .ok (.getfield 34, 3) := by decide +kernel
theorem dX11_addRule_82 : decode cX11_addRule 82 = .ok (.iload_n 1, 1) := by decide +kernel
theorem dX11_addRule_83 : decode cX11_addRule 83 = .ok (.iaload, 1) := by decide +kernel
theorem dX11_addRule_84 : decode cX11_addRule 84 = .ok (.iastore, 1) := by decide +kernel
theorem dX11_addRule_85 : decode cX11_addRule 85 = .ok (.iinc 1 1, 3) := by decide +kernel
theorem dX11_addRule_88 : decode cX11_addRule 88 = .ok (.goto (-37), 3) := by decide +kernel
theorem dX11_addRule_91 : decode cX11_addRule 91 = .ok (.aload_n 0, 1) := by decide +kernel
theorem dX11_addRule_92 : decode cX11_addRule 92 = .ok (.getfield 9, 3) := by decide +kernel
theorem dX11_addRule_95 : decode cX11_addRule 95 = .ok (.sipush 230, 3) := by decide +kernel
theorem dX11_addRule_98 : decode cX11_addRule 98 = .ok (.dup2, 1) := by decide +kernel
theorem dX11_addRule_99 : decode cX11_addRule 99 = .ok (.iaload, 1) := by decide +kernel
theorem dX11_addRule_100 : decode cX11_addRule 100 = .ok (.iconst 1, 1) := by decide +kernel
theorem dX11_addRule_101 : decode cX11_addRule 101 = .ok (.iadd, 1) := by decide +kernel
theorem dX11_addRule_102 : decode cX11_addRule 102 = .ok (.iastore, 1) := by decide +kernel
theorem dX11_addRule_103 : decode cX11_addRule 103 = .ok (.aload_n 0, 1) := by decide +kernel
theorem dX11_addRule_104 : decode cX11_addRule 104 = .ok (.getfield 9, 3) := by decide +kernel
theorem dX11_addRule_107 : decode cX11_addRule 107 = .ok (.sipush 230, 3) := by decide +kernel
theorem dX11_addRule_110 : decode cX11_addRule 110 = .ok (.iaload, 1) := by decide +kernel
theorem dX11_addRule_111 : decode cX11_addRule 111 = .ok (.iconst 1, 1) := by decide +kernel
theorem dX11_addRule_112 : decode cX11_addRule 112 = .ok (.isub, 1) := by decide +kernel
theorem dX11_addRule_113 : decode cX11_addRule 113 = .ok (.ireturn, 1) := by decide +kernel
theorem dX11_isRule_0 : decode cX11_isRule 0 = .ok (.iload_n 1, 1) := by decide +kernel
theorem dX11_isRule_1 : decode cX11_isRule 1 = .ok (.iconst 0, 1) := by decide +kernel
theorem dX11_isRule_2 : decode cX11_isRule 2 = .ok (.aload_n 0, 1) := by decide +kernel
theorem dX11_isRule_3 : decode cX11_isRule 3 = .ok (.getfield 9, 3) := by decide +kernel
theorem dX11_isRule_6 : decode cX11_isRule 6 = .ok (.sipush 230, 3) := by decide +kernel
theorem dX11_isRule_9 : decode cX11_isRule 9 = .ok (.iaload, 1) := by decide +kernel
theorem dX11_isRule_10 : decode cX11_isRule 10 = .ok (.iconst 1, 1) := by decide +kernel
theorem dX11_isRule_11 : decode cX11_isRule 11 = .ok (.isub, 1) := by decide +kernel
theorem dX11_isRule_12 : decode cX11_isRule 12 = .ok (.invokestatic 44, 3) := by decide +kernel
theorem dX11_isRule_15 : decode cX11_isRule 15 = .ok (.ireturn, 1) := by decide +kernel
theorem dX11_removeRule_0 : decode cX11_removeRule 0 = .ok (.aload_n 0, 1) := by decide +kernel
theorem dX11_removeRule_1 : decode cX11_removeRule 1 = .ok (.iload_n 1, 1) := by decide +kernel
theorem dX11_removeRule_2 : decode cX11_removeRule 2 = .ok (.invokevirtual 103, 3) := by decide +kernel
theorem dX11_removeRule_5 : decode cX11_removeRule 5 = .ok (.ifCond .ne 5, 3) := by decide +kernel
theorem dX11_removeRule_8 : decode cX11_removeRule 8 = .ok (.iconst (-1), 1) := by decide +kernel
theorem dX11_removeRule_9 : decode cX11_removeRule 9 = .ok (.ireturn, 1) := by decide +kernel
theorem dX11_removeRule_10 : decode cX11_removeRule 10 = .ok (.aload_n 0, 1) := by decide +kernel
theorem dX11_removeRule_11 : decode cX11_removeRule 11 = .ok (.invokevirtual 55, 3) := by decide +kernel
theorem dX11_removeRule_14 : decode cX11_removeRule 14 = .ok (.aload_n 0, 1) := by decide +kernel
theorem dX11_removeRule_15 : decode cX11_removeRule 15 = .ok (.getfield 9, 3) := by decide +kernel
theorem dX11_removeRule_18 : decode cX11_removeRule 18 = .ok (.sipush 230, 3) := by decide +kernel
theorem dX11_removeRule_21 : decode cX11_removeRule 21 = .ok (.dup2, 1) := by decide +kernel
theorem dX11_removeRule_22 : decode cX11_removeRule 22 = .ok (.iaload, 1) := by decide +kernel
theorem dX11_removeRule_23 : decode cX11_removeRule 23 = .ok (.iconst 1, 1) := by decide +kernel
theorem dX11_removeRule_24 : decode cX11_removeRule 24 = .ok (.isub, 1) := by decide +kernel
theorem dX11_removeRule_25 : decode cX11_removeRule 25 = .ok (.iastore, 1) := by decide +kernel
theorem dX11_removeRule_26 : decode cX11_removeRule 26 = .ok (.sipush 231, 3) := by decide +kernel
theorem dX11_removeRule_29 : decode cX11_removeRule 29 = .ok (.bipush 58, 2) := by decide +kernel
theorem dX11_removeRule_31 : decode cX11_removeRule 31 = .ok (.iload_n 1, 1) := by decide +kernel
theorem dX11_removeRule_32 : decode cX11_removeRule 32 = .ok (.imul, 1) := by decide +kernel
theorem dX11_removeRule_33 : decode cX11_removeRule 33 = .ok (.iadd, 1) := by decide +kernel
theorem dX11_removeRule_34 : decode cX11_removeRule 34 = .ok (.istore_n 2, 1) := by decide +kernel
theorem dX11_removeRule_35 : decode cX11_removeRule 35 = .ok (.iload_n 2, 1) := by decide +kernel
theorem dX11_removeRule_36 : decode cX11_removeRule 36 = .ok (.sipush 231, 3) := by decide +kernel
theorem dX11_removeRule_39 : decode cX11_removeRule 39 = .ok (.bipush 58, 2) := by decide +kernel
theorem dX11_removeRule_41 : decode cX11_removeRule 41 = .ok (.aload_n 0, 1) := by decide +kernel
theorem dX11_removeRule_42 : decode cX11_removeRule 42 = .ok (.getfield 9, 3) := by decide +kernel
theorem dX11_removeRule_45 : decode cX11_removeRule 45 = .ok (.sipush 230, 3) := by decide +kernel
theorem dX11_removeRule_48 : decode cX11_removeRule 48 = .ok (.iaload, 1) := by decide +kernel
theorem dX11_removeRule_49 : decode cX11_removeRule 49 = .ok (.imul, 1) := by decide +kernel
theorem dX11_removeRule_50 : decode cX11_removeRule 50 = .ok (.iadd, 1) := by decide +kernel
theorem dX11_removeRule_51 : decode cX11_removeRule 51 = .ok (.if_icmp .ge 24, 3) := by decide +kernel
theorem dX11_removeRule_54 : decode cX11_removeRule 54 = .ok (.aload_n 0, 1) := by decide +kernel
theorem dX11_removeRule_55 : decode cX11_removeRule 55 = .ok (.getfield 9, 3) := by decide +kernel
theorem dX11_removeRule_58 : decode cX11_removeRule 58 = .ok (.iload_n 2, 1) := by decide +kernel
theorem dX11_removeRule_59 : decode cX11_removeRule 59 = .ok (.aload_n 0, 1) := by decide +kernel
theorem dX11_removeRule_60 : decode cX11_removeRule 60 = .ok (.getfield 9, 3) := by decide +kernel
theorem dX11_removeRule_63 : decode cX11_removeRule 63 = .ok (.iload_n 2, 1) := by decide +kernel
theorem dX11_removeRule_64 : decode cX11_removeRule 64 = .ok (.bipush 58, 2) := by decide +kernel
theorem dX11_removeRule_66 : decode cX11_removeRule 66 = .ok (.iadd, 1) := by decide +kernel
theorem dX11_removeRule_67 : decode cX11_removeRule 67 = .ok (.iaload, 1) := by decide +kernel
theorem dX11_removeRule_68 : decode cX11_removeRule 68 = .ok (.iastore, 1) := by decide +kernel
theorem dX11_removeRule_69 : decode cX11_removeRule 69 = .ok (.iinc 2 1, 3) := by decide +kernel
theorem dX11_removeRule_72 : decode cX11_removeRule 72 = .ok (.goto (-37), 3) := by decide +kernel
theorem dX11_removeRule_75 : decode cX11_removeRule 75 = .ok (.aload_n 0, 1) := by decide +kernel
theorem dX11_removeRule_76 : decode cX11_removeRule 76 = .ok (.getfield 9, 3) := by decide +kernel
theorem dX11_removeRule_79 : decode cX11_removeRule 79 = .ok (.sipush 230, 3) := by decide +kernel
theorem dX11_removeRule_82 : decode cX11_removeRule 82 = .ok (.iaload, 1) := by decide +kernel
theorem dX11_removeRule_83 : decode cX11_removeRule 83 = .ok (.ireturn, 1) := by decide +kernel
theorem dX11_swaps_0 : decode cX11_swaps 0 = .ok (.sipush 231, 3) := by decide +kernel
theorem dX11_swaps_3 : decode cX11_swaps 3 = .ok (.bipush 58, 2) := by decide +kernel
theorem dX11_swaps_5 : decode cX11_swaps 5 = .ok (.iload_n 1, 1) := by decide +kernel
theorem dX11_swaps_6 : decode cX11_swaps 6 = .ok (.imul, 1) := by decide +kernel
theorem dX11_swaps_7 : decode cX11_swaps 7 = .ok (.iadd, 1) := by decide +kernel
theorem dX11_swaps_8 : decode cX11_swaps 8 = .ok (.istore_n 2, 1) := by decide +kernel
theorem dX11_swaps_9 : decode cX11_swaps 9 = .ok (.iload_n 2, 1) := by decide +kernel
theorem dX11_swaps_10 : decode cX11_swaps 10 = .ok (.sipush 231, 3) := by decide +kernel
theorem dX11_swaps_13 : decode cX11_swaps 13 = .ok (.bipush 58, 2) := by decide +kernel
theorem dX11_swaps_15 : decode cX11_swaps 15 = .ok (.iload_n 1, 1) := by decide +kernel
theorem dX11_swaps_16 : decode cX11_swaps 16 = .ok (.iconst 1, 1) := by decide +kernel
theorem dX11_swaps_17 : decode cX11_swaps 17 = .ok (.iadd, 1) := by decide +kernel
theorem dX11_swaps_18 : decode cX11_swaps 18 = .ok (.imul, 1) := by decide +kernel
theorem dX11_swaps_19 : decode cX11_swaps 19 = .ok (.iadd, 1) := by decide +kernel
theorem dX11_swaps_20 : decode cX11_swaps 20 = .ok (.if_icmp .ge 41, 3) := by decide +kernel
theorem dX11_swaps_23 : decode cX11_swaps 23 = .ok (.aload_n 0, 1) := by decide +kernel
theorem dX11_swaps_24 : decode cX11_swaps 24 = .ok (.getfield 9, 3) := by decide +kernel
theorem dX11_swaps_27 : decode cX11_swaps 27 = .ok (.iload_n 2, 1) := by decide +kernel
theorem dX11_swaps_28 : decode cX11_swaps 28 = .ok (.iaload, 1) := by decide +kernel
theorem dX11_swaps_29 : decode cX11_swaps 29 = .ok (.istore_n 3, 1) := by decide +kernel
theorem dX11_swaps_30 : decode cX11_swaps 30 = .ok (.aload_n 0, 1) := by decide +kernel
theorem dX11_swaps_31 : decode cX11_swaps 31 = .ok (.getfield 9, 3) := by decide +kernel
theorem dX11_swaps_34 : decode cX11_swaps 34 = .ok (.iload_n 2, 1) := by decide +kernel
theorem dX11_swaps_35 : decode cX11_swaps 35 = .ok (.aload_n 0, 1) := by decide +kernel
theorem dX11_swaps_36 : decode cX11_swaps 36 = .ok (.getfield 9, 3) := by decide +kernel
theorem dX11_swaps_39 : decode cX11_swaps 39 = .ok (.iload_n 2, 1) := by decide +kernel
theorem dX11_swaps_40 : decode cX11_swaps 40 = .ok (.bipush 58, 2) := by decide +kernel
theorem dX11_swaps_42 : decode cX11_swaps 42 = .ok (.iadd, 1) := by decide +kernel
theorem dX11_swaps_43 : decode cX11_swaps 43 = .ok (.iaload, 1) := by decide +kernel
theorem dX11_swaps_44 : decode cX11_swaps 44 = .ok (.iastore, 1) := by decide +kernel
theorem dX11_swaps_45 : decode cX11_swaps 45 = .ok (.aload_n 0, 1) := by decide +kernel
theorem dX11_swaps_46 : decode cX11_swaps 46 = .ok (.getfield 9, 3) := by decide +kernel
theorem dX11_swaps_49 : decode cX11_swaps 49 = .ok (.iload_n 2, 1) := by decide +kernel
theorem dX11_swaps_50 : decode cX11_swaps 50 = .ok (.bipush 58, 2) := by decide +kernel
theorem dX11_swaps_52 : decode cX11_swaps 52 = .ok (.iadd, 1) := by decide +kernel
theorem dX11_swaps_53 : decode cX11_swaps 53 = .ok (.iload_n 3, 1) := by decide +kernel
theorem dX11_swaps_54 : decode cX11_swaps 54 = .ok (.iastore, 1) := by decide +kernel
theorem dX11_swaps_55 : decode cX11_swaps 55 = .ok (.iinc 2 1, 3) := by decide +kernel
theorem dX11_swaps_58 : decode cX11_swaps 58 = .ok (.goto (-49), 3) := by decide +kernel
theorem dX11_swaps_61 : decode cX11_swaps 61 = .ok (.return_, 1) := by decide +kernel
theorem dX11_moveRule_0 : decode cX11_moveRule 0 = .ok (.aload_n 0, 1) := by decide +kernel
theorem dX11_moveRule_1 : decode cX11_moveRule 1 = .ok (.iload_n 1, 1) := by decide +kernel
theorem dX11_moveRule_2 : decode cX11_moveRule 2 = .ok (.invokevirtual 103, 3) := by decide +kernel
theorem dX11_moveRule_5 : decode cX11_moveRule 5 = .ok (.ifCond .ne 5, 3) := by decide +kernel
theorem dX11_moveRule_8 : decode cX11_moveRule 8 = .ok (.iconst (-1), 1) := by decide +kernel
theorem dX11_moveRule_9 : decode cX11_moveRule 9 = .ok (.ireturn, 1) := by decide +kernel
theorem dX11_moveRule_10 : decode cX11_moveRule 10 = .ok (.aload_n 0, 1) := by decide +kernel
theorem dX11_moveRule_11 : decode cX11_moveRule 11 = .ok (.iload_n 2, 1) := by decide +kernel
theorem dX11_moveRule_12 : decode cX11_moveRule 12 = .ok (.invokevirtual 103, 3) := by decide +kernel
theorem dX11_moveRule_15 : decode cX11_moveRule 15 = .ok (.ifCond .ne 6, 3) := by decide +kernel
theorem dX11_moveRule_18 : decode cX11_moveRule 18 = .ok (.bipush (-2), 2) := by decide +kernel
theorem dX11_moveRule_20 : decode cX11_moveRule 20 = .ok (.ireturn, 1) := by decide +kernel
theorem dX11_moveRule_21 : decode cX11_moveRule 21 = .ok (.aload_n 0, 1) := by decide +kernel
theorem dX11_moveRule_22 : decode cX11_moveRule 22 = .ok (.invokevirtual 55, 3) := by decide +kernel
theorem dX11_moveRule_25 : decode cX11_moveRule 25 = .ok (.iload_n 1, 1) := by decide +kernel
theorem dX11_moveRule_26 : decode cX11_moveRule 26 = .ok (.istore_n 3, 1) := by decide +kernel
theorem dX11_moveRule_27 : decode cX11_moveRule 27 = .ok (.iload_n 3, 1) := by decide +kernel
theorem dX11_moveRule_28 : decode cX11_moveRule 28 = .ok (.iload_n 2, 1) := by decide +kernel
theorem dX11_moveRule_29 : decode cX11_moveRule 29 = .ok (.if_icmp .ge 14, 3) := by decide +kernel
theorem dX11_moveRule_32 : decode cX11_moveRule 32 = .ok (.aload_n 0, 1) := by decide +kernel
theorem dX11_moveRule_33 : decode cX11_moveRule 33 = .ok (.iload_n 3, 1) := by decide +kernel
theorem dX11_moveRule_34 : decode cX11_moveRule 34 = .ok (.invokevirtual 106, 3) := by decide +kernel
theorem dX11_moveRule_37 : decode cX11_moveRule 37 = .ok (.iinc 3 1, 3) := by decide +kernel
theorem dX11_moveRule_40 : decode cX11_moveRule 40 = .ok (.goto (-13), 3) := by decide +kernel
theorem dX11_moveRule_43 : decode cX11_moveRule 43 = .ok (.iload_n 1, 1) := by decide +kernel
theorem dX11_moveRule_44 : decode cX11_moveRule 44 = .ok (.iconst 1, 1) := by decide +kernel
theorem dX11_moveRule_45 : decode cX11_moveRule 45 = .ok (.isub, 1) := by decide +kernel
theorem dX11_moveRule_46 : decode cX11_moveRule 46 = .ok (.istore_n 3, 1) := by decide +kernel
theorem dX11_moveRule_47 : decode cX11_moveRule 47 = .ok (.iload_n 3, 1) := by decide +kernel
theorem dX11_moveRule_48 : decode cX11_moveRule 48 = .ok (.iload_n 2, 1) := by decide +kernel
theorem dX11_moveRule_49 : decode cX11_moveRule 49 = .ok (.if_icmp .lt 14, 3) := by decide +kernel
theorem dX11_moveRule_52 : decode cX11_moveRule 52 = .ok (.aload_n 0, 1) := by decide +kernel
theorem dX11_moveRule_53 : decode cX11_moveRule 53 = .ok (.iload_n 3, 1) := by decide +kernel
theorem dX11_moveRule_54 : decode cX11_moveRule 54 = .ok (.invokevirtual 106, 3) := by decide +kernel
theorem dX11_moveRule_57 : decode cX11_moveRule 57 = .ok (.iinc 3 (-1), 3) := by decide +kernel
theorem dX11_moveRule_60 : decode cX11_moveRule 60 = .ok (.goto (-13), 3) := by decide +kernel
theorem dX11_moveRule_63 : decode cX11_moveRule 63 = .ok (.iload_n 1, 1) := by decide +kernel
theorem dX11_moveRule_64 : decode cX11_moveRule 64 = .ok (.iload_n 2, 1) := by decide +kernel
theorem dX11_moveRule_65 : decode cX11_moveRule 65 = .ok (.if_icmp .le 9, 3) := by decide +kernel
theorem dX11_moveRule_68 : decode cX11_moveRule 68 = .ok (.iload_n 1, 1) := by decide +kernel
theorem dX11_moveRule_69 : decode cX11_moveRule 69 = .ok (.iload_n 2, 1) := by decide +kernel
theorem dX11_moveRule_70 : decode cX11_moveRule 70 = .ok (.isub, 1) := by decide +kernel
theorem dX11_moveRule_71 : decode cX11_moveRule 71 = .ok (.goto 6, 3) := by decide +kernel
theorem dX11_moveRule_74 : decode cX11_moveRule 74 = .ok (.iload_n 2, 1) := by decide +kernel
theorem dX11_moveRule_75 : decode cX11_moveRule 75 = .ok (.iload_n 1, 1) := by decide +kernel
theorem dX11_moveRule_76 : decode cX11_moveRule 76 = .ok (.isub, 1) := by decide +kernel
theorem dX11_moveRule_77 : decode cX11_moveRule 77 = .ok (.ireturn, 1) := by decide +kernel
theorem dX11_fits_0 : decode cX11_fits 0 = .ok (.sipush 231, 3) := by decide +kernel
theorem dX11_fits_3 : decode cX11_fits 3 = .ok (.bipush 58, 2) := by decide +kernel
theorem dX11_fits_5 : decode cX11_fits 5 = .ok (.iload_n 1, 1) := by decide +kernel
theorem dX11_fits_6 : decode cX11_fits 6 = .ok (.imul, 1) := by decide +kernel
theorem dX11_fits_7 : decode cX11_fits 7 = .ok (.iadd, 1) := by decide +kernel
theorem dX11_fits_8 : decode cX11_fits 8 = .ok (.istore_n 3, 1) := by decide +kernel
theorem dX11_fits_9 : decode cX11_fits 9 = .ok (.aload_n 0, 1) := by decide +kernel
theorem dX11_fits_10 : decode cX11_fits 10 = .ok (.getfield 9, 3) := by decide +kernel
theorem dX11_fits_13 : decode cX11_fits 13 = .ok (.iload_n 3, 1) := by decide +kernel
theorem dX11_fits_14 : decode cX11_fits 14 = .ok (.iaload, 1) := by decide +kernel
theorem dX11_fits_15 : decode cX11_fits 15 = .ok (.aload_n 0, 1) := by decide +kernel
theorem dX11_fits_16 : decode cX11_fits 16 = .ok (.getfield 74, 3) := by decide +kernel
theorem dX11_fits_19 : decode cX11_fits 19 = .ok (.if_icmp .gt 28, 3) := by decide +kernel
theorem dX11_fits_22 : decode cX11_fits 22 = .ok (.iload_n 2, 1) := by decide +kernel
theorem dX11_fits_23 : decode cX11_fits 23 = .ok (.aload_n 0, 1) := by decide +kernel
theorem dX11_fits_24 : decode cX11_fits 24 = .ok (.getfield 9, 3) := by decide +kernel
theorem dX11_fits_27 : decode cX11_fits 27 = .ok (.iload_n 3, 1) := by decide +kernel
theorem dX11_fits_28 : decode cX11_fits 28 = .ok (.bipush 41, 2) := by decide +kernel
theorem dX11_fits_30 : decode cX11_fits 30 = .ok (.iadd, 1) := by decide +kernel
theorem dX11_fits_31 : decode cX11_fits 31 = .ok (.iaload, 1) := by decide +kernel
theorem dX11_fits_32 : decode cX11_fits 32 = .ok (.aload_n 0, 1) := by decide +kernel
theorem dX11_fits_33 : decode cX11_fits 33 = .ok (.getfield 9, 3) := by decide +kernel
theorem dX11_fits_36 : decode cX11_fits 36 = .ok (.iload_n 3, 1) := by decide +kernel
theorem dX11_fits_37 : decode cX11_fits 37 = .ok (.bipush 42, 2) := by decide +kernel
theorem dX11_fits_39 : decode cX11_fits 39 = .ok (.iadd, 1) := by decide +kernel
theorem dX11_fits_40 : decode cX11_fits 40 = .ok (.iaload, 1) := by decide +kernel
theorem dX11_fits_41 : decode cX11_fits 41 = .ok (.invokestatic 44, 3) := by decide +kernel
theorem dX11_fits_44 : decode cX11_fits 44 = .ok (.ifCond .ne 5, 3) := by decide +kernel
theorem dX11_fits_47 : decode cX11_fits 47 = .ok (.iconst 0, 1) := by decide +kernel
theorem dX11_fits_48 : decode cX11_fits 48 = .ok (.ireturn, 1) := by decide +kernel
theorem dX11_fits_49 : decode cX11_fits 49 = .ok (.iconst 0, 1) := by decide +kernel
theorem dX11_fits_50 : decode cX11_fits 50 = .ok (.istore 4, 2) := by decide +kernel
theorem dX11_fits_52 : decode cX11_fits 52 = .ok (.iload 4, 2) := by decide +kernel
theorem dX11_fits_54 : decode cX11_fits 54 = .ok (.aload_n 0, 1) := by decide +kernel
theorem dX11_fits_55 : decode cX11_fits 55 = .ok (.getfield 9, 3) := by decide +kernel
theorem dX11_fits_58 : decode cX11_fits 58 = .ok (.iload_n 3, 1) := by decide +kernel
theorem dX11_fits_59 : decode cX11_fits 59 = .ok (.iaload, 1) := by decide +kernel
theorem dX11_fits_60 : decode cX11_fits 60 = .ok (.if_icmp .ge 32, 3) := by decide +kernel
theorem dX11_fits_63 : decode cX11_fits 63 = .ok (.aload_n 0, 1) := by decide +kernel
theorem dX11_fits_64 : decode cX11_fits 64 = .ok (.getfield 9, 3) := by decide +kernel
theorem dX11_fits_67 : decode cX11_fits 67 = .ok (.iload_n 3, 1) := by decide +kernel
theorem dX11_fits_68 : decode cX11_fits 68 = .ok (.iconst 1, 1) := by decide +kernel
theorem dX11_fits_69 : decode cX11_fits 69 = .ok (.iadd, 1) := by decide +kernel
theorem dX11_fits_70 : decode cX11_fits 70 = .ok (.iload 4, 2) := by decide +kernel
theorem dX11_fits_72 : decode cX11_fits 72 = .ok (.iadd, 1) := by decide +kernel
theorem dX11_fits_73 : decode cX11_fits 73 = .ok (.iaload, 1) := by decide +kernel
theorem dX11_fits_74 : decode cX11_fits 74 = .ok (.aload_n 0, 1) := by decide +kernel
theorem dX11_fits_75 : decode cX11_fits 75 = .ok (.getfield 22, 3) := by decide +kernel
theorem dX11_fits_78 : decode cX11_fits 78 = .ok (.iload 4, 2) := by decide +kernel
theorem dX11_fits_80 : decode cX11_fits 80 = .ok (.iaload, 1) := by decide +kernel
theorem dX11_fits_81 : decode cX11_fits 81 = .ok (.if_icmp .eq 5, 3) := by decide +kernel
theorem dX11_fits_84 : decode cX11_fits 84 = .ok (.iconst 0, 1) := by decide +kernel
theorem dX11_fits_85 : decode cX11_fits 85 = .ok (.ireturn, 1) := by decide +kernel
theorem dX11_fits_86 : decode cX11_fits 86 = .ok (.iinc 4 1, 3) := by decide +kernel
theorem dX11_fits_89 : decode cX11_fits 89 = .ok (.goto (-37), 3) := by decide +kernel
theorem dX11_fits_92 : decode cX11_fits 92 = .ok (.iconst 1, 1) := by decide +kernel
theorem dX11_fits_93 : decode cX11_fits 93 = .ok (.ireturn, 1) := by decide +kernel
theorem dX11_ruleOf_0 : decode cX11_ruleOf 0 = .ok (.iconst 0, 1) := by decide +kernel
theorem dX11_ruleOf_1 : decode cX11_ruleOf 1 = .ok (.istore_n 2, 1) := by decide +kernel
theorem dX11_ruleOf_2 : decode cX11_ruleOf 2 = .ok (.iload_n 2, 1) := by decide +kernel
theorem dX11_ruleOf_3 : decode cX11_ruleOf 3 = .ok (.aload_n 0, 1) := by decide +kernel
theorem dX11_ruleOf_4 : decode cX11_ruleOf 4 = .ok (.getfield 9, 3) := by decide +kernel
theorem dX11_ruleOf_7 : decode cX11_ruleOf 7 = .ok (.sipush 230, 3) := by decide +kernel
theorem dX11_ruleOf_10 : decode cX11_ruleOf 10 = .ok (.iaload, 1) := by decide +kernel
theorem dX11_ruleOf_11 : decode cX11_ruleOf 11 = .ok (.if_icmp .ge 18, 3) := by decide +kernel
theorem dX11_ruleOf_14 : decode cX11_ruleOf 14 = .ok (.aload_n 0, 1) := by decide +kernel
theorem dX11_ruleOf_15 : decode cX11_ruleOf 15 = .ok (.iload_n 2, 1) := by decide +kernel
theorem dX11_ruleOf_16 : decode cX11_ruleOf 16 = .ok (.iload_n 1, 1) := by decide +kernel
theorem dX11_ruleOf_17 : decode cX11_ruleOf 17 = .ok (.invokevirtual 109, 3) := by decide +kernel
theorem dX11_ruleOf_20 : decode cX11_ruleOf 20 = .ok (.ifCond .ne 9, 3) := by decide +kernel
theorem dX11_ruleOf_23 : decode cX11_ruleOf 23 = .ok (.iinc 2 1, 3) := by decide +kernel
theorem dX11_ruleOf_26 : decode cX11_ruleOf 26 = .ok (.goto (-24), 3) := by decide +kernel
theorem dX11_ruleOf_29 : decode cX11_ruleOf 29 = .ok (.iload_n 2, 1) := by decide +kernel
theorem dX11_ruleOf_30 : decode cX11_ruleOf 30 = .ok (.aload_n 0, 1) := by decide +kernel
theorem dX11_ruleOf_31 : decode cX11_ruleOf 31 = .ok (.getfield 9, 3) := by decide +kernel
theorem dX11_ruleOf_34 : decode cX11_ruleOf 34 = .ok (.sipush 230, 3) := by decide +kernel
theorem dX11_ruleOf_37 : decode cX11_ruleOf 37 = .ok (.iaload, 1) := by decide +kernel
theorem dX11_ruleOf_38 : decode cX11_ruleOf 38 = .ok (.if_icmp .ge 7, 3) := by decide +kernel
theorem dX11_ruleOf_41 : decode cX11_ruleOf 41 = .ok (.iload_n 2, 1) := by decide +kernel
theorem dX11_ruleOf_42 : decode cX11_ruleOf 42 = .ok (.goto 4, 3) := by decide +kernel
theorem dX11_ruleOf_45 : decode cX11_ruleOf 45 = .ok (.iconst (-1), 1) := by decide +kernel
theorem dX11_ruleOf_46 : decode cX11_ruleOf 46 = .ok (.ireturn, 1) := by decide +kernel
theorem dX11_match_0 : decode cX11_match 0 = .ok (.iload_n 1, 1) := by decide +kernel
theorem dX11_match_1 : decode cX11_match 1 = .ok (.iconst 0, 1) := by decide +kernel
theorem dX11_match_2 : decode cX11_match 2 = .ok (.bipush 9, 2) := by decide +kernel
theorem dX11_match_4 : decode cX11_match 4 = .ok (.invokestatic 44, 3) := by decide +kernel
theorem dX11_match_7 : decode cX11_match 7 = .ok (.ifCond .ne 8, 3) := by decide +kernel
theorem dX11_match_10 : decode cX11_match 10 = .ok (.bipush (-2), 2) := by decide +kernel
theorem dX11_match_12 : decode cX11_match 12 = .ok (.goto 20, 3) := by decide +kernel
theorem dX11_match_15 : decode cX11_match 15 = .ok (.aload_n 0, 1) := by decide +kernel
theorem dX11_match_16 : decode cX11_match 16 = .ok (.invokevirtual 113, 3) := by decide +kernel
theorem dX11_match_19 : decode cX11_match 19 = .ok (.ifCond .ne 8, 3) := by decide +kernel
theorem dX11_match_22 : decode cX11_match 22 = .ok (.bipush (-7), 2) := by decide +kernel
theorem dX11_match_24 : decode cX11_match 24 = .ok (.goto 8, 3) := by decide +kernel
theorem dX11_match_27 : decode cX11_match 27 = .ok (.aload_n 0, 1) := by decide +kernel
theorem dX11_match_28 : decode cX11_match 28 = .ok (.iload_n 1, 1) := by decide +kernel
theorem dX11_match_29 : decode cX11_match 29 = .ok (.invokevirtual 117, 3) := by decide +kernel
theorem dX11_match_32 : decode cX11_match 32 = .ok (.ireturn, 1) := by decide +kernel
theorem dX11_isMember_0 : decode cX11_isMember 0 = .ok (.aload_n 0, 1) := by decide +kernel
theorem dX11_isMember_1 : decode cX11_isMember 1 = .ok (.iload_n 1, 1) := by decide +kernel
theorem dX11_isMember_2 : decode cX11_isMember 2 = .ok (.iconst 0, 1) := by decide +kernel
theorem dX11_isMember_3 : decode cX11_isMember 3 = .ok (.invokevirtual 66, 3) := by decide +kernel
theorem dX11_isMember_6 : decode cX11_isMember 6 = .ok (.iload_n 2, 1) := by decide +kernel
theorem dX11_isMember_7 : decode cX11_isMember 7 = .ok (.if_icmp .ne 16, 3) := by decide +kernel
theorem dX11_isMember_10 : decode cX11_isMember 10 = .ok (.aload_n 0, 1) := by decide +kernel
theorem dX11_isMember_11 : decode cX11_isMember 11 = .ok (.iload_n 1, 1) := by decide +kernel
theorem dX11_isMember_12 : decode cX11_isMember 12 = .ok (.iconst 2, 1) := by decide +kernel
theorem dX11_isMember_13 : decode cX11_isMember 13 = .ok (.invokevirtual 66, 3) := by decide +kernel
theorem dX11_isMember_16 : decode cX11_isMember 16 = .ok (.ifCond .le 7, 3) := by decide +kernel
theorem dX11_isMember_19 : decode cX11_isMember 19 = .ok (.iconst 1, 1) := by decide +kernel
theorem dX11_isMember_20 : decode cX11_isMember 20 = .ok (.goto 4, 3) := by decide +kernel
theorem dX11_isMember_23 : decode cX11_isMember 23 = .ok (.iconst 0, 1) := by decide +kernel
theorem dX11_isMember_24 : decode cX11_isMember 24 = .ok (.ireturn, 1) := by decide +kernel
theorem dX11_isAvailable_0 : decode cX11_isAvailable 0 = .ok (.aload_n 0, 1) := by decide +kernel
theorem dX11_isAvailable_1 : decode cX11_isAvailable 1 = .ok (.iload_n 1, 1) := by decide +kernel
theorem dX11_isAvailable_2 : decode cX11_isAvailable 2 = .ok (.iload_n 2, 1) := by decide +kernel
theorem dX11_isAvailable_3 : decode cX11_isAvailable 3 = .ok (.invokevirtual 121, 3) := by decide +kernel
theorem dX11_isAvailable_6 : decode cX11_isAvailable 6 = .ok (.ifCond .eq 17, 3) := by decide +kernel
theorem dX11_isAvailable_9 : decode cX11_isAvailable 9 = .ok (.aload_n 0, 1) := by decide +kernel
theorem dX11_isAvailable_10 : decode cX11_isAvailable 10 = .ok (.iload_n 1, 1) := by decide +kernel
theorem dX11_isAvailable_11 : decode cX11_isAvailable 11 = .ok (.bipush 9, 2) := by decide +kernel
theorem dX11_isAvailable_13 : decode cX11_isAvailable 13 = .ok (.invokevirtual 66, 3) := by decide +kernel
theorem dX11_isAvailable_16 : decode cX11_isAvailable 16 = .ok (.ifCond .ne 7, 3) := by decide +kernel
theorem dX11_isAvailable_19 : decode cX11_isAvailable 19 = .ok (.iconst 1, 1) := by decide +kernel
theorem dX11_isAvailable_20 : decode cX11_isAvailable 20 = .ok (.goto 4, 3) := by decide +kernel
theorem dX11_isAvailable_23 : decode cX11_isAvailable 23 = .ok (.iconst 0, 1) := by decide +kernel
theorem dX11_isAvailable_24 : decode cX11_isAvailable 24 = .ok (.ireturn, 1) := by decide +kernel
theorem dX11_availables_0 : decode cX11_availables 0 = .ok (.iconst 0, 1) := by decide +kernel
theorem dX11_availables_1 : decode cX11_availables 1 = .ok (.istore_n 2, 1) := by decide +kernel
theorem dX11_availables_2 : decode cX11_availables 2 = .ok (.iconst 0, 1) := by decide +kernel
theorem dX11_availables_3 : decode cX11_availables 3 = .ok (.istore_n 3, 1) := by decide +kernel
theorem dX11_availables_4 : decode cX11_availables 4 = .ok (.iload_n 3, 1) := by decide +kernel
theorem dX11_availables_5 : decode cX11_availables 5 = .ok (.aload_n 0, 1) := by decide +kernel
theorem dX11_availables_6 : decode cX11_availables 6 = .ok (.getfield 9, 3) := by decide +kernel
theorem dX11_availables_9 : decode cX11_availables 9 = .ok (.sipush 144, 3) := by decide +kernel
theorem dX11_availables_12 : decode cX11_availables 12 = .ok (.iaload, 1) := by decide +kernel
theorem dX11_availables_13 : decode cX11_availables 13 = .ok (.if_icmp .ge 28, 3) := by decide +kernel
theorem dX11_availables_16 : decode cX11_availables 16 = .ok (.iload_n 2, 1) := by decide +kernel
theorem dX11_availables_17 : decode cX11_availables 17 = .ok (.aload_n 0, 1) := by decide +kernel
theorem dX11_availables_18 : decode cX11_availables 18 = .ok (.iload_n 3, 1) := by decide +kernel
theorem dX11_availables_19 : decode cX11_availables 19 = .ok (.iload_n 1, 1) := by decide +kernel
theorem dX11_availables_20 : decode cX11_availables 20 = .ok (.invokevirtual 124, 3) := by decide +kernel
theorem dX11_availables_23 : decode cX11_availables 23 = .ok (.ifCond .eq 9, 3) := by decide +kernel
theorem dX11_availables_26 : decode cX11_availables 26 = .ok (.iconst 1, 1) := by decide +kernel
theorem dX11_availables_27 : decode cX11_availables 27 = .ok (.iload_n 3, 1) := by decide +kernel
theorem dX11_availables_28 : decode cX11_availables 28 = .ok (.ishl, 1) := by decide +kernel
theorem dX11_availables_29 : decode cX11_availables 29 = .ok (.goto 4, 3) := by decide +kernel
theorem dX11_availables_32 : decode cX11_availables 32 = .ok (.iconst 0, 1) := by decide +kernel
theorem dX11_availables_33 : decode cX11_availables 33 = .ok (.ior, 1) := by decide +kernel
theorem dX11_availables_34 : decode cX11_availables 34 = .ok (.istore_n 2, 1) := by decide +kernel
theorem dX11_availables_35 : decode cX11_availables 35 = .ok (.iinc 3 1, 3) := by decide +kernel
theorem dX11_availables_38 : decode cX11_availables 38 = .ok (.goto (-34), 3) := by decide +kernel
theorem dX11_availables_41 : decode cX11_availables 41 = .ok (.iload_n 2, 1) := by decide +kernel
theorem dX11_availables_42 : decode cX11_availables 42 = .ok (.ireturn, 1) := by decide +kernel
theorem dX11_choosesTarget_0 : decode cX11_choosesTarget 0 = .ok (.sipush 231, 3) := by decide +kernel
theorem dX11_choosesTarget_3 : decode cX11_choosesTarget 3 = .ok (.bipush 58, 2) := by decide +kernel
theorem dX11_choosesTarget_5 : decode cX11_choosesTarget 5 = .ok (.iload_n 1, 1) := by decide +kernel
theorem dX11_choosesTarget_6 : decode cX11_choosesTarget 6 = .ok (.imul, 1) := by decide +kernel
theorem dX11_choosesTarget_7 : decode cX11_choosesTarget 7 = .ok (.iadd, 1) := by decide +kernel
theorem dX11_choosesTarget_8 : decode cX11_choosesTarget 8 = .ok (.bipush 44, 2) := by decide +kernel
theorem dX11_choosesTarget_10 : decode cX11_choosesTarget 10 = .ok (.iadd, 1) := by decide +kernel
theorem dX11_choosesTarget_11 : decode cX11_choosesTarget 11 = .ok (.istore_n 2, 1) := by decide +kernel
theorem dX11_choosesTarget_12 : decode cX11_choosesTarget 12 = .ok (.iconst (-1), 1) := by decide +kernel
theorem dX11_choosesTarget_13 : decode cX11_choosesTarget 13 = .ok (.istore_n 3, 1) := by decide +kernel
theorem dX11_choosesTarget_14 : decode cX11_choosesTarget 14 = .ok (.iconst 0, 1) := by decide +kernel
theorem dX11_choosesTarget_15 : decode cX11_choosesTarget 15 = .ok (.istore 4, 2) := by decide +kernel
theorem dX11_choosesTarget_17 : decode cX11_choosesTarget 17 = .ok (.iconst 0, 1) := by decide +kernel
theorem dX11_choosesTarget_18 : decode cX11_choosesTarget 18 = .ok (.istore 5, 2) := by decide +kernel
theorem dX11_choosesTarget_20 : decode cX11_choosesTarget 20 = .ok (.iload 5, 2) := by decide +kernel
theorem dX11_choosesTarget_22 : decode cX11_choosesTarget 22 = .ok (.aload_n 0, 1) := by decide +kernel
theorem dX11_choosesTarget_23 : decode cX11_choosesTarget 23 = .ok (.getfield 9, 3) := by decide +kernel
theorem dX11_choosesTarget_26 : decode cX11_choosesTarget 26 = .ok (.sipush 231, 3) := by decide +kernel
theorem dX11_choosesTarget_29 : decode cX11_choosesTarget 29 = .ok (.bipush 58, 2) := by decide +kernel
theorem dX11_choosesTarget_31 : decode cX11_choosesTarget 31 = .ok (.iload_n 1, 1) := by decide +kernel
theorem dX11_choosesTarget_32 : decode cX11_choosesTarget 32 = .ok (.imul, 1) := by decide +kernel
theorem dX11_choosesTarget_33 : decode cX11_choosesTarget 33 = .ok (.iadd, 1) := by decide +kernel
theorem dX11_choosesTarget_34 : decode cX11_choosesTarget 34 = .ok (.bipush 43, 2) := by decide +kernel
theorem dX11_choosesTarget_36 : decode cX11_choosesTarget 36 = .ok (.iadd, 1) := by decide +kernel
theorem dX11_choosesTarget_37 : decode cX11_choosesTarget 37 = .ok (.iaload, 1) := by decide +kernel
theorem dX11_choosesTarget_38 : decode cX11_choosesTarget 38 = .ok (.if_icmp .ge 100, 3) := by decide +kernel
theorem dX11_choosesTarget_41 : decode cX11_choosesTarget 41 = .ok (.iload_n 2, 1) := by decide +kernel
theorem dX11_choosesTarget_42 : decode cX11_choosesTarget 42 = .ok (.iconst 4, 1) := by decide +kernel
theorem dX11_choosesTarget_43 : decode cX11_choosesTarget 43 = .ok (.iload 5, 2) := by decide +kernel
theorem dX11_choosesTarget_45 : decode cX11_choosesTarget 45 = .ok (.imul, 1) := by decide +kernel
theorem dX11_choosesTarget_46 : decode cX11_choosesTarget 46 = .ok (.iadd, 1) := by decide +kernel
theorem dX11_choosesTarget_47 : decode cX11_choosesTarget 47 = .ok (.istore 6, 2) := by decide +kernel
theorem dX11_choosesTarget_49 : decode cX11_choosesTarget 49 = .ok (.aload_n 0, 1) := by decide +kernel
theorem dX11_choosesTarget_50 : decode cX11_choosesTarget 50 = .ok (.aload_n 0, 1) := by decide +kernel
theorem dX11_choosesTarget_51 : decode cX11_choosesTarget 51 = .ok (.getfield 9, 3) := by decide +kernel
theorem dX11_choosesTarget_54 : decode cX11_choosesTarget 54 = .ok (.iload 6, 2) := by decide +kernel
theorem dX11_choosesTarget_56 : decode cX11_choosesTarget 56 = .ok (.iaload, 1) := by decide +kernel
theorem dX11_choosesTarget_57 : decode cX11_choosesTarget 57 = .ok (.invokevirtual 127, 3) := by decide +kernel
theorem dX11_choosesTarget_60 : decode cX11_choosesTarget 60 = .ok (.ifCond .ne 6, 3) := by decide +kernel
theorem dX11_choosesTarget_63 : decode cX11_choosesTarget 63 = .ok (.goto 69, 3) := by decide +kernel
theorem dX11_choosesTarget_66 : decode cX11_choosesTarget 66 = .ok (.aload_n 0, 1) := by decide +kernel
theorem dX11_choosesTarget_67 : decode cX11_choosesTarget 67 = .ok (.getfield 9, 3) := by decide +kernel
theorem dX11_choosesTarget_70 : decode cX11_choosesTarget 70 = .ok (.iload 6, 2) := by decide +kernel
theorem dX11_choosesTarget_72 : decode cX11_choosesTarget 72 = .ok (.iconst 2, 1) := by decide +kernel
theorem dX11_choosesTarget_73 : decode cX11_choosesTarget 73 = .ok (.iadd, 1) := by decide +kernel
theorem dX11_choosesTarget_74 : decode cX11_choosesTarget 74 = .ok (.dup2, 1) := by decide +kernel
theorem dX11_choosesTarget_75 : decode cX11_choosesTarget 75 = .ok (.iaload, 1) := by decide +kernel
theorem dX11_choosesTarget_76 : decode cX11_choosesTarget 76 = .ok (.aload_n 0, 1) := by decide +kernel
theorem dX11_choosesTarget_77 : decode cX11_choosesTarget 77 = .ok (.getfield 9, 3) := by decide +kernel
theorem dX11_choosesTarget_80 : decode cX11_choosesTarget 80 = .ok (.iload 6, 2) := by decide +kernel
theorem dX11_choosesTarget_82 : decode cX11_choosesTarget 82 = .ok (.iconst 1, 1) := by decide +kernel
theorem dX11_choosesTarget_83 : decode cX11_choosesTarget 83 = .ok (.iadd, 1) := by decide +kernel
theorem dX11_choosesTarget_84 : decode cX11_choosesTarget 84 = .ok (.iaload, 1) := by decide +kernel
theorem dX11_choosesTarget_85 : decode cX11_choosesTarget 85 = .ok (.iadd, 1) := by decide +kernel
theorem dX11_choosesTarget_86 : decode cX11_choosesTarget 86 = .ok (.iastore, 1) := by decide +kernel
theorem dX11_choosesTarget_87 : decode cX11_choosesTarget 87 = .ok (.iload 4, 2) := by decide +kernel
theorem dX11_choosesTarget_89 : decode cX11_choosesTarget 89 = .ok (.aload_n 0, 1) := by decide +kernel
theorem dX11_choosesTarget_90 : decode cX11_choosesTarget 90 = .ok (.getfield 9, 3) := by decide +kernel
theorem dX11_choosesTarget_93 : decode cX11_choosesTarget 93 = .ok (.iload 6, 2) := by decide +kernel
theorem dX11_choosesTarget_95 : decode cX11_choosesTarget 95 = .ok (.iconst 1, 1) := by decide +kernel
theorem dX11_choosesTarget_96 : decode cX11_choosesTarget 96 = .ok (.iadd, 1) := by decide +kernel
theorem dX11_choosesTarget_97 : decode cX11_choosesTarget 97 = .ok (.iaload, 1) := by decide +kernel
theorem dX11_choosesTarget_98 : decode cX11_choosesTarget 98 = .ok (.iadd, 1) := by decide +kernel
theorem dX11_choosesTarget_99 : decode cX11_choosesTarget 99 = .ok (.istore 4, 2) := by decide +kernel
theorem dX11_choosesTarget_101 : decode cX11_choosesTarget 101 = .ok (.iload_n 3, 1) := by decide +kernel
theorem dX11_choosesTarget_102 : decode cX11_choosesTarget 102 = .ok (.ifCond .lt 27, 3) := by decide +kernel
theorem dX11_choosesTarget_105 : decode cX11_choosesTarget 105 = .ok (.aload_n 0, 1) := by decide +kernel
theorem dX11_choosesTarget_106 : decode cX11_choosesTarget 106 = .ok (.getfield 9, 3) := by decide +kernel
theorem dX11_choosesTarget_109 : decode cX11_choosesTarget 109 = .ok (.iload 6, 2) := by decide +kernel
theorem dX11_choosesTarget_111 : decode cX11_choosesTarget 111 = .ok (.iconst 2, 1) := by decide +kernel
theorem dX11_choosesTarget_112 : decode cX11_choosesTarget 112 = .ok (.iadd, 1) := by decide +kernel
theorem dX11_choosesTarget_113 : decode cX11_choosesTarget 113 = .ok (.iaload, 1) := by decide +kernel
theorem dX11_choosesTarget_114 : decode cX11_choosesTarget 114 = .ok (.aload_n 0, 1) := by decide +kernel
theorem dX11_choosesTarget_115 : decode cX11_choosesTarget 115 = .ok (.getfield 9, 3) := by decide +kernel
theorem dX11_choosesTarget_118 : decode cX11_choosesTarget 118 = .ok (.iload_n 2, 1) := by decide +kernel
theorem dX11_choosesTarget_119 : decode cX11_choosesTarget 119 = .ok (.iconst 4, 1) := by decide +kernel
theorem dX11_choosesTarget_120 : decode cX11_choosesTarget 120 = .ok (.iload_n 3, 1) := by decide +kernel
theorem dX11_choosesTarget_121 : decode cX11_choosesTarget 121 = .ok (.imul, 1) := by decide +kernel
theorem dX11_choosesTarget_122 : decode cX11_choosesTarget 122 = .ok (.iadd, 1) := by decide +kernel
theorem dX11_choosesTarget_123 : decode cX11_choosesTarget 123 = .ok (.iconst 2, 1) := by decide +kernel
theorem dX11_choosesTarget_124 : decode cX11_choosesTarget 124 = .ok (.iadd, 1) := by decide +kernel
theorem dX11_choosesTarget_125 : decode cX11_choosesTarget 125 = .ok (.iaload, 1) := by decide +kernel
theorem dX11_choosesTarget_126 : decode cX11_choosesTarget 126 = .ok (.if_icmp .le 6, 3) := by decide +kernel
theorem dX11_choosesTarget_129 : decode cX11_choosesTarget 129 = .ok (.iload 5, 2) := by decide +kernel
theorem dX11_choosesTarget_131 : decode cX11_choosesTarget 131 = .ok (.istore_n 3, 1) := by decide +kernel
theorem dX11_choosesTarget_132 : decode cX11_choosesTarget 132 = .ok (.iinc 5 1, 3) := by decide +kernel
theorem dX11_choosesTarget_135 : decode cX11_choosesTarget 135 = .ok (.goto (-115), 3) := by decide +kernel
theorem dX11_choosesTarget_138 : decode cX11_choosesTarget 138 = .ok (.iload_n 3, 1) := by decide +kernel
theorem dX11_choosesTarget_139 : decode cX11_choosesTarget 139 = .ok (.ifCond .ge 5, 3) := by decide +kernel
theorem dX11_choosesTarget_142 : decode cX11_choosesTarget 142 = .ok (.iconst (-1), 1) := by decide +kernel
theorem dX11_choosesTarget_143 : decode cX11_choosesTarget 143 = .ok (.ireturn, 1) := by decide +kernel
theorem dX11_choosesTarget_144 : decode cX11_choosesTarget 144 = .ok (.aload_n 0, 1) := by decide +kernel
theorem dX11_choosesTarget_145 : decode cX11_choosesTarget 145 = .ok (.getfield 9, 3) := by decide +kernel
theorem dX11_choosesTarget_148 : decode cX11_choosesTarget 148 = .ok (.iload_n 2, 1) := by decide +kernel
theorem dX11_choosesTarget_149 : decode cX11_choosesTarget 149 = .ok (.iconst 4, 1) := by decide +kernel
theorem dX11_choosesTarget_150 : decode cX11_choosesTarget 150 = .ok (.iload_n 3, 1) := by decide +kernel
theorem dX11_choosesTarget_151 : decode cX11_choosesTarget 151 = .ok (.imul, 1) := by decide +kernel
theorem dX11_choosesTarget_152 : decode cX11_choosesTarget 152 = .ok (.iadd, 1) := by decide +kernel
theorem dX11_choosesTarget_153 : decode cX11_choosesTarget 153 = .ok (.iconst 2, 1) := by decide +kernel
theorem dX11_choosesTarget_154 : decode cX11_choosesTarget 154 = .ok (.iadd, 1) := by decide +kernel
theorem dX11_choosesTarget_155 : decode cX11_choosesTarget 155 = .ok (.dup2, 1) := by decide +kernel
theorem dX11_choosesTarget_156 : decode cX11_choosesTarget 156 = .ok (.iaload, 1) := by decide +kernel
theorem dX11_choosesTarget_157 : decode cX11_choosesTarget 157 = .ok (.iload 4, 2) := by decide +kernel
theorem dX11_choosesTarget_159 : decode cX11_choosesTarget 159 = .ok (.isub, 1) := by decide +kernel
theorem dX11_choosesTarget_160 : decode cX11_choosesTarget 160 = .ok (.iastore, 1) := by decide +kernel
theorem dX11_choosesTarget_161 : decode cX11_choosesTarget 161 = .ok (.aload_n 0, 1) := by decide +kernel
theorem dX11_choosesTarget_162 : decode cX11_choosesTarget 162 = .ok (.getfield 9, 3) := by decide +kernel
theorem dX11_choosesTarget_165 : decode cX11_choosesTarget 165 = .ok (.iload_n 2, 1) := by decide +kernel
theorem dX11_choosesTarget_166 : decode cX11_choosesTarget 166 = .ok (.iconst 4, 1) := by decide +kernel
theorem dX11_choosesTarget_167 : decode cX11_choosesTarget 167 = .ok (.iload_n 3, 1) := by decide +kernel
theorem dX11_choosesTarget_168 : decode cX11_choosesTarget 168 = .ok (.imul, 1) := by decide +kernel
theorem dX11_choosesTarget_169 : decode cX11_choosesTarget 169 = .ok (.iadd, 1) := by decide +kernel
theorem dX11_choosesTarget_170 : decode cX11_choosesTarget 170 = .ok (.iconst 3, 1) := by decide +kernel
theorem dX11_choosesTarget_171 : decode cX11_choosesTarget 171 = .ok (.iadd, 1) := by decide +kernel
theorem dX11_choosesTarget_172 : decode cX11_choosesTarget 172 = .ok (.dup2, 1) := by decide +kernel
theorem dX11_choosesTarget_173 : decode cX11_choosesTarget 173 = .ok (.iaload, 1) := by decide +kernel
theorem dX11_choosesTarget_174 : decode cX11_choosesTarget 174 = .ok (.iconst 1, 1) := by decide +kernel
theorem dX11_choosesTarget_175 : decode cX11_choosesTarget 175 = .ok (.iadd, 1) := by decide +kernel
theorem dX11_choosesTarget_176 : decode cX11_choosesTarget 176 = .ok (.iastore, 1) := by decide +kernel
theorem dX11_choosesTarget_177 : decode cX11_choosesTarget 177 = .ok (.iload_n 3, 1) := by decide +kernel
theorem dX11_choosesTarget_178 : decode cX11_choosesTarget 178 = .ok (.ireturn, 1) := by decide +kernel
theorem dX11_byWeights_0 : decode cX11_byWeights 0 = .ok (.iconst (-1), 1) := by decide +kernel
theorem dX11_byWeights_1 : decode cX11_byWeights 1 = .ok (.istore_n 2, 1) := by decide +kernel
theorem dX11_byWeights_2 : decode cX11_byWeights 2 = .ok (.iconst 0, 1) := by decide +kernel
theorem dX11_byWeights_3 : decode cX11_byWeights 3 = .ok (.istore_n 3, 1) := by decide +kernel
theorem dX11_byWeights_4 : decode cX11_byWeights 4 = .ok (.iconst 0, 1) := by decide +kernel
theorem dX11_byWeights_5 : decode cX11_byWeights 5 = .ok (.istore 4, 2) := by decide +kernel
theorem dX11_byWeights_7 : decode cX11_byWeights 7 = .ok (.iload 4, 2) := by decide +kernel
theorem dX11_byWeights_9 : decode cX11_byWeights 9 = .ok (.aload_n 0, 1) := by decide +kernel
theorem dX11_byWeights_10 : decode cX11_byWeights 10 = .ok (.getfield 9, 3) := by decide +kernel
theorem dX11_byWeights_13 : decode cX11_byWeights 13 = .ok (.sipush 144, 3) := by decide +kernel
theorem dX11_byWeights_16 : decode cX11_byWeights 16 = .ok (.iaload, 1) := by decide +kernel
theorem dX11_byWeights_17 : decode cX11_byWeights 17 = .ok (.if_icmp .ge 76, 3) := by decide +kernel
theorem dX11_byWeights_20 : decode cX11_byWeights 20 = .ok (.iload_n 1, 1) := by decide +kernel
theorem dX11_byWeights_21 : decode cX11_byWeights 21 = .ok (.iload 4, 2) := by decide +kernel
theorem dX11_byWeights_23 : decode cX11_byWeights 23 = .ok (.ishr, 1) := by decide +kernel
theorem dX11_byWeights_24 : decode cX11_byWeights 24 = .ok (.iconst 1, 1) := by decide +kernel
theorem dX11_byWeights_25 : decode cX11_byWeights 25 = .ok (.iand, 1) := by decide +kernel
theorem dX11_byWeights_26 : decode cX11_byWeights 26 = .ok (.ifCond .ne 6, 3) := by decide +kernel
theorem dX11_byWeights_29 : decode cX11_byWeights 29 = .ok (.goto 58, 3) := by decide +kernel
theorem dX11_byWeights_32 : decode cX11_byWeights 32 = .ok (.aload_n 0, 1) := by decide +kernel
theorem dX11_byWeights_33 : decode cX11_byWeights 33 = .ok (.iload 4, 2) := by decide +kernel
theorem dX11_byWeights_35 : decode cX11_byWeights 35 = .ok (.iconst 4, 1) := by decide +kernel
theorem dX11_byWeights_36 : decode cX11_byWeights 36 = .ok (.aload_n 0, 1) := by decide +kernel
theorem dX11_byWeights_37 : decode cX11_byWeights 37 = .ok (.iload 4, 2) := by decide +kernel
theorem dX11_byWeights_39 : decode cX11_byWeights 39 = .ok (.iconst 4, 1) := by decide +kernel
theorem dX11_byWeights_40 : decode cX11_byWeights 40 = .ok (.invokevirtual 66, 3) := by decide +kernel
theorem dX11_byWeights_43 : decode cX11_byWeights 43 = .ok (.aload_n 0, 1) := by decide +kernel
theorem dX11_byWeights_44 : decode cX11_byWeights 44 = .ok (.iload 4, 2) := by decide +kernel
theorem dX11_byWeights_46 : decode cX11_byWeights 46 = .ok (.iconst 2, 1) := by decide +kernel
theorem dX11_byWeights_47 : decode cX11_byWeights 47 = .ok (.invokevirtual 66, 3) := by decide +kernel
theorem dX11_byWeights_50 : decode cX11_byWeights 50 = .ok (.iadd, 1) := by decide +kernel
theorem dX11_byWeights_51 : decode cX11_byWeights 51 = .ok (.invokevirtual 58, 3) := by decide +kernel
theorem dX11_byWeights_54 : decode cX11_byWeights 54 = .ok (.iload_n 3, 1) := by decide +kernel
theorem dX11_byWeights_55 : decode cX11_byWeights 55 = .ok (.aload_n 0, 1) := by decide +kernel
theorem dX11_byWeights_56 : decode cX11_byWeights 56 = .ok (.iload 4, 2) := by decide +kernel
theorem dX11_byWeights_58 : decode cX11_byWeights 58 = .ok (.iconst 2, 1) := by decide +kernel
theorem dX11_byWeights_59 : decode cX11_byWeights 59 = .ok (.invokevirtual 66, 3) := by decide +kernel
theorem dX11_byWeights_62 : decode cX11_byWeights 62 = .ok (.iadd, 1) := by decide +kernel
theorem dX11_byWeights_63 : decode cX11_byWeights 63 = .ok (.istore_n 3, 1) := by decide +kernel
theorem dX11_byWeights_64 : decode cX11_byWeights 64 = .ok (.iload_n 2, 1) := by decide +kernel
theorem dX11_byWeights_65 : decode cX11_byWeights 65 = .ok (.ifCond .lt 19, 3) := by decide +kernel
theorem dX11_byWeights_68 : decode cX11_byWeights 68 = .ok (.aload_n 0, 1) := by decide +kernel
theorem dX11_byWeights_69 : decode cX11_byWeights 69 = .ok (.iload 4, 2) := by decide +kernel
theorem dX11_byWeights_71 : decode cX11_byWeights 71 = .ok (.iconst 4, 1) := by decide +kernel
theorem dX11_byWeights_72 : decode cX11_byWeights 72 = .ok (.invokevirtual 66, 3) := by decide +kernel
theorem dX11_byWeights_75 : decode cX11_byWeights 75 = .ok (.aload_n 0, 1) := by decide +kernel
theorem dX11_byWeights_76 : decode cX11_byWeights 76 = .ok (.iload_n 2, 1) := by decide +kernel
theorem dX11_byWeights_77 : decode cX11_byWeights 77 = .ok (.iconst 4, 1) := by decide +kernel
theorem dX11_byWeights_78 : decode cX11_byWeights 78 = .ok (.invokevirtual 66, 3) := by decide +kernel
theorem dX11_byWeights_81 : decode cX11_byWeights 81 = .ok (.if_icmp .le 6, 3) := by decide +kernel
theorem dX11_byWeights_84 : decode cX11_byWeights 84 = .ok (.iload 4, 2) := by decide +kernel
theorem dX11_byWeights_86 : decode cX11_byWeights 86 = .ok (.istore_n 2, 1) := by decide +kernel
theorem dX11_byWeights_87 : decode cX11_byWeights 87 = .ok (.iinc 4 1, 3) := by decide +kernel
theorem dX11_byWeights_90 : decode cX11_byWeights 90 = .ok (.goto (-83), 3) := by decide +kernel
theorem dX11_byWeights_93 : decode cX11_byWeights 93 = .ok (.aload_n 0, 1) := by decide +kernel
theorem dX11_byWeights_94 : decode cX11_byWeights 94 = .ok (.iload_n 2, 1) := by decide +kernel
theorem dX11_byWeights_95 : decode cX11_byWeights 95 = .ok (.iconst 4, 1) := by decide +kernel
theorem dX11_byWeights_96 : decode cX11_byWeights 96 = .ok (.aload_n 0, 1) := by decide +kernel
theorem dX11_byWeights_97 : decode cX11_byWeights 97 = .ok (.iload_n 2, 1) := by decide +kernel
theorem dX11_byWeights_98 : decode cX11_byWeights 98 = .ok (.iconst 4, 1) := by decide +kernel
theorem dX11_byWeights_99 : decode cX11_byWeights 99 = .ok (.invokevirtual 66, 3) := by decide +kernel
theorem dX11_byWeights_102 : decode cX11_byWeights 102 = .ok (.iload_n 3, 1) := by decide +kernel
theorem dX11_byWeights_103 : decode cX11_byWeights 103 = .ok (.isub, 1) := by decide +kernel
theorem dX11_byWeights_104 : decode cX11_byWeights 104 = .ok (.invokevirtual 58, 3) := by decide +kernel
theorem dX11_byWeights_107 : decode cX11_byWeights 107 = .ok (.iload_n 2, 1) := by decide +kernel
theorem dX11_byWeights_108 : decode cX11_byWeights 108 = .ok (.ireturn, 1) := by decide +kernel
theorem dX11_leastUsed_0 : decode cX11_leastUsed 0 = .ok (.iconst (-1), 1) := by decide +kernel
theorem dX11_leastUsed_1 : decode cX11_leastUsed 1 = .ok (.istore_n 2, 1) := by decide +kernel
theorem dX11_leastUsed_2 : decode cX11_leastUsed 2 = .ok (.iconst 0, 1) := by decide +kernel
theorem dX11_leastUsed_3 : decode cX11_leastUsed 3 = .ok (.istore_n 3, 1) := by decide +kernel
theorem dX11_leastUsed_4 : decode cX11_leastUsed 4 = .ok (.iload_n 3, 1) := by decide +kernel
theorem dX11_leastUsed_5 : decode cX11_leastUsed 5 = .ok (.aload_n 0, 1) := by decide +kernel
theorem dX11_leastUsed_6 : decode cX11_leastUsed 6 = .ok (.getfield 9, 3) := by decide +kernel
theorem dX11_leastUsed_9 : decode cX11_leastUsed 9 = .ok (.sipush 144, 3) := by decide +kernel
theorem dX11_leastUsed_12 : decode cX11_leastUsed 12 = .ok (.iaload, 1) := by decide +kernel
theorem dX11_leastUsed_13 : decode cX11_leastUsed 13 = .ok (.if_icmp .ge 53, 3) := by decide +kernel
theorem dX11_leastUsed_16 : decode cX11_leastUsed 16 = .ok (.iload_n 1, 1) := by decide +kernel
theorem dX11_leastUsed_17 : decode cX11_leastUsed 17 = .ok (.iload_n 3, 1) := by decide +kernel
theorem dX11_leastUsed_18 : decode cX11_leastUsed 18 = .ok (.ishr, 1) := by decide +kernel
theorem dX11_leastUsed_19 : decode cX11_leastUsed 19 = .ok (.iconst 1, 1) := by decide +kernel
theorem dX11_leastUsed_20 : decode cX11_leastUsed 20 = .ok (.iand, 1) := by decide +kernel
theorem dX11_leastUsed_21 : decode cX11_leastUsed 21 = .ok (.iconst 1, 1) := by decide +kernel
theorem dX11_leastUsed_22 : decode cX11_leastUsed 22 = .ok (.if_icmp .ne 38, 3) := by decide +kernel
theorem dX11_leastUsed_25 : decode cX11_leastUsed 25 = .ok (.iload_n 2, 1) := by decide +kernel
theorem dX11_leastUsed_26 : decode cX11_leastUsed 26 = .ok (.ifCond .lt 32, 3) := by decide +kernel
theorem dX11_leastUsed_29 : decode cX11_leastUsed 29 = .ok (.aload_n 0, 1) := by decide +kernel
theorem dX11_leastUsed_30 : decode cX11_leastUsed 30 = .ok (.iload_n 3, 1) := by decide +kernel
theorem dX11_leastUsed_31 : decode cX11_leastUsed 31 = .ok (.iconst 5, 1) := by decide +kernel
theorem dX11_leastUsed_32 : decode cX11_leastUsed 32 = .ok (.invokevirtual 66, 3) := by decide +kernel
theorem dX11_leastUsed_35 : decode cX11_leastUsed 35 = .ok (.aload_n 0, 1) := by decide +kernel
theorem dX11_leastUsed_36 : decode cX11_leastUsed 36 = .ok (.iload_n 2, 1) := by decide +kernel
theorem dX11_leastUsed_37 : decode cX11_leastUsed 37 = .ok (.iconst 2, 1) := by decide +kernel
theorem dX11_leastUsed_38 : decode cX11_leastUsed 38 = .ok (.invokevirtual 66, 3) := by decide +kernel
theorem dX11_leastUsed_41 : decode cX11_leastUsed 41 = .ok (.imul, 1) := by decide +kernel
theorem dX11_leastUsed_42 : decode cX11_leastUsed 42 = .ok (.aload_n 0, 1) := by decide +kernel
theorem dX11_leastUsed_43 : decode cX11_leastUsed 43 = .ok (.iload_n 2, 1) := by decide +kernel
theorem dX11_leastUsed_44 : decode cX11_leastUsed 44 = .ok (.iconst 5, 1) := by decide +kernel
theorem dX11_leastUsed_45 : decode cX11_leastUsed 45 = .ok (.invokevirtual 66, 3) := by decide +kernel
theorem dX11_leastUsed_48 : decode cX11_leastUsed 48 = .ok (.aload_n 0, 1) := by decide +kernel
theorem dX11_leastUsed_49 : decode cX11_leastUsed 49 = .ok (.iload_n 3, 1) := by decide +kernel
theorem dX11_leastUsed_50 : decode cX11_leastUsed 50 = .ok (.iconst 2, 1) := by decide +kernel
theorem dX11_leastUsed_51 : decode cX11_leastUsed 51 = .ok (.invokevirtual 66, 3) := by decide +kernel
theorem dX11_leastUsed_54 : decode cX11_leastUsed 54 = .ok (.imul, 1) := by decide +kernel
theorem dX11_leastUsed_55 : decode cX11_leastUsed 55 = .ok (.if_icmp .ge 5, 3) := by decide +kernel
theorem dX11_leastUsed_58 : decode cX11_leastUsed 58 = .ok (.iload_n 3, 1) := by decide +kernel
theorem dX11_leastUsed_59 : decode cX11_leastUsed 59 = .ok (.istore_n 2, 1) := by decide +kernel
theorem dX11_leastUsed_60 : decode cX11_leastUsed 60 = .ok (.iinc 3 1, 3) := by decide +kernel
theorem dX11_leastUsed_63 : decode cX11_leastUsed 63 = .ok (.goto (-59), 3) := by decide +kernel
theorem dX11_leastUsed_66 : decode cX11_leastUsed 66 = .ok (.iload_n 2, 1) := by decide +kernel
theorem dX11_leastUsed_67 : decode cX11_leastUsed 67 = .ok (.ireturn, 1) := by decide +kernel
theorem dX11_weights_0 : decode cX11_weights 0 = .ok (.iconst 0, 1) := by decide +kernel
theorem dX11_weights_1 : decode cX11_weights 1 = .ok (.istore_n 2, 1) := by decide +kernel
theorem dX11_weights_2 : decode cX11_weights 2 = .ok (.iconst 0, 1) := by decide +kernel
theorem dX11_weights_3 : decode cX11_weights 3 = .ok (.istore_n 3, 1) := by decide +kernel
theorem dX11_weights_4 : decode cX11_weights 4 = .ok (.iload_n 3, 1) := by decide +kernel
theorem dX11_weights_5 : decode cX11_weights 5 = .ok (.aload_n 0, 1) := by decide +kernel
theorem dX11_weights_6 : decode cX11_weights 6 = .ok (.getfield 9, 3) := by decide +kernel
theorem dX11_weights_9 : decode cX11_weights 9 = .ok (.sipush 144, 3) := by decide +kernel
theorem dX11_weights_12 : decode cX11_weights 12 = .ok (.iaload, 1) := by decide +kernel
theorem dX11_weights_13 : decode cX11_weights 13 = .ok (.if_icmp .ge 31, 3) := by decide +kernel
theorem dX11_weights_16 : decode cX11_weights 16 = .ok (.iload_n 2, 1) := by decide +kernel
theorem dX11_weights_17 : decode cX11_weights 17 = .ok (.iload_n 1, 1) := by decide +kernel
theorem dX11_weights_18 : decode cX11_weights 18 = .ok (.iload_n 3, 1) := by decide +kernel
theorem dX11_weights_19 : decode cX11_weights 19 = .ok (.ishr, 1) := by decide +kernel
theorem dX11_weights_20 : decode cX11_weights 20 = .ok (.iconst 1, 1) := by decide +kernel
theorem dX11_weights_21 : decode cX11_weights 21 = .ok (.iand, 1) := by decide +kernel
theorem dX11_weights_22 : decode cX11_weights 22 = .ok (.iconst 1, 1) := by decide +kernel
theorem dX11_weights_23 : decode cX11_weights 23 = .ok (.if_icmp .ne 12, 3) := by decide +kernel
theorem dX11_weights_26 : decode cX11_weights 26 = .ok (.aload_n 0, 1) := by decide +kernel
theorem dX11_weights_27 : decode cX11_weights 27 = .ok (.iload_n 3, 1) := by decide +kernel
theorem dX11_weights_28 : decode cX11_weights 28 = .ok (.iconst 2, 1) := by decide +kernel
theorem dX11_weights_29 : decode cX11_weights 29 = .ok (.invokevirtual 66, 3) := by decide +kernel
theorem dX11_weights_32 : decode cX11_weights 32 = .ok (.goto 4, 3) := by decide +kernel
theorem dX11_weights_35 : decode cX11_weights 35 = .ok (.iconst 0, 1) := by decide +kernel
theorem dX11_weights_36 : decode cX11_weights 36 = .ok (.iadd, 1) := by decide +kernel
theorem dX11_weights_37 : decode cX11_weights 37 = .ok (.istore_n 2, 1) := by decide +kernel
theorem dX11_weights_38 : decode cX11_weights 38 = .ok (.iinc 3 1, 3) := by decide +kernel
theorem dX11_weights_41 : decode cX11_weights 41 = .ok (.goto (-37), 3) := by decide +kernel
theorem dX11_weights_44 : decode cX11_weights 44 = .ok (.iload_n 2, 1) := by decide +kernel
theorem dX11_weights_45 : decode cX11_weights 45 = .ok (.ireturn, 1) := by decide +kernel
theorem dX11_narrowed_0 : decode cX11_narrowed 0 = .ok (.iconst 0, 1) := by decide +kernel
theorem dX11_narrowed_1 : decode cX11_narrowed 1 = .ok (.istore 4, 2) := by decide +kernel
theorem dX11_narrowed_3 : decode cX11_narrowed 3 = .ok (.iconst 0, 1) := by decide +kernel
theorem dX11_narrowed_4 : decode cX11_narrowed 4 = .ok (.istore 5, 2) := by decide +kernel
theorem dX11_narrowed_6 : decode cX11_narrowed 6 = .ok (.iconst 0, 1) := by decide +kernel
theorem dX11_narrowed_7 : decode cX11_narrowed 7 = .ok (.istore 6, 2) := by decide +kernel
theorem dX11_narrowed_9 : decode cX11_narrowed 9 = .ok (.iload 6, 2) := by decide +kernel
theorem dX11_narrowed_11 : decode cX11_narrowed 11 = .ok (.aload_n 0, 1) := by decide +kernel
theorem dX11_narrowed_12 : decode cX11_narrowed 12 = .ok (.getfield 9, 3) := by decide +kernel
theorem dX11_narrowed_15 : decode cX11_narrowed 15 = .ok (.sipush 144, 3) := by decide +kernel
theorem dX11_narrowed_18 : decode cX11_narrowed 18 = .ok (.iaload, 1) := by decide +kernel
theorem dX11_narrowed_19 : decode cX11_narrowed 19 = .ok (.if_icmp .ge 57, 3) := by decide +kernel
theorem dX11_narrowed_22 : decode cX11_narrowed 22 = .ok (.aload_n 0, 1) := by decide +kernel
theorem dX11_narrowed_23 : decode cX11_narrowed 23 = .ok (.iload 6, 2) := by decide +kernel
theorem dX11_narrowed_25 : decode cX11_narrowed 25 = .ok (.iconst 1, 1) := by decide +kernel
theorem dX11_narrowed_26 : decode cX11_narrowed 26 = .ok (.invokevirtual 66, 3) := by decide +kernel
theorem dX11_narrowed_29 : decode cX11_narrowed 29 = .ok (.iload_n 3, 1) := by decide +kernel
theorem dX11_narrowed_30 : decode cX11_narrowed 30 = .ok (.if_icmp .eq 6, 3) := by decide +kernel
theorem dX11_narrowed_33 : decode cX11_narrowed 33 = .ok (.goto 37, 3) := by decide +kernel
theorem dX11_narrowed_36 : decode cX11_narrowed 36 = .ok (.iload 4, 2) := by decide +kernel
theorem dX11_narrowed_38 : decode cX11_narrowed 38 = .ok (.iload_n 1, 1) := by decide +kernel
theorem dX11_narrowed_39 : decode cX11_narrowed 39 = .ok (.iconst 1, 1) := by decide +kernel
theorem dX11_narrowed_40 : decode cX11_narrowed 40 = .ok (.iload 6, 2) := by decide +kernel
theorem dX11_narrowed_42 : decode cX11_narrowed 42 = .ok (.ishl, 1) := by decide +kernel
theorem dX11_narrowed_43 : decode cX11_narrowed 43 = .ok (.iand, 1) := by decide +kernel
theorem dX11_narrowed_44 : decode cX11_narrowed 44 = .ok (.ior, 1) := by decide +kernel
theorem dX11_narrowed_45 : decode cX11_narrowed 45 = .ok (.istore 4, 2) := by decide +kernel
theorem dX11_narrowed_47 : decode cX11_narrowed 47 = .ok (.iload 5, 2) := by decide +kernel
theorem dX11_narrowed_49 : decode cX11_narrowed 49 = .ok (.aload_n 0, 1) := by decide +kernel
theorem dX11_narrowed_50 : decode cX11_narrowed 50 = .ok (.iload 6, 2) := by decide +kernel
theorem dX11_narrowed_52 : decode cX11_narrowed 52 = .ok (.iload_n 2, 1) := by decide +kernel
theorem dX11_narrowed_53 : decode cX11_narrowed 53 = .ok (.invokevirtual 121, 3) := by decide +kernel
theorem dX11_narrowed_56 : decode cX11_narrowed 56 = .ok (.ifCond .eq 10, 3) := by decide +kernel
theorem dX11_narrowed_59 : decode cX11_narrowed 59 = .ok (.iconst 1, 1) := by decide +kernel
theorem dX11_narrowed_60 : decode cX11_narrowed 60 = .ok (.iload 6, 2) := by decide +kernel
theorem dX11_narrowed_62 : decode cX11_narrowed 62 = .ok (.ishl, 1) := by decide +kernel
theorem dX11_narrowed_63 : decode cX11_narrowed 63 = .ok (.goto 4, 3) := by decide +kernel
theorem dX11_narrowed_66 : decode cX11_narrowed 66 = .ok (.iconst 0, 1) := by decide +kernel
theorem dX11_narrowed_67 : decode cX11_narrowed 67 = .ok (.ior, 1) := by decide +kernel
theorem dX11_narrowed_68 : decode cX11_narrowed 68 = .ok (.istore 5, 2) := by decide +kernel
theorem dX11_narrowed_70 : decode cX11_narrowed 70 = .ok (.iinc 6 1, 3) := by decide +kernel
theorem dX11_narrowed_73 : decode cX11_narrowed 73 = .ok (.goto (-64), 3) := by decide +kernel
theorem dX11_narrowed_76 : decode cX11_narrowed 76 = .ok (.iload 4, 2) := by decide +kernel
theorem dX11_narrowed_78 : decode cX11_narrowed 78 = .ok (.ifCond .eq 9, 3) := by decide +kernel
theorem dX11_narrowed_81 : decode cX11_narrowed 81 = .ok (.iload 4, 2) := by decide +kernel
theorem dX11_narrowed_83 : decode cX11_narrowed 83 = .ok (.iload_n 1, 1) := by decide +kernel
theorem dX11_narrowed_84 : decode cX11_narrowed 84 = .ok (.if_icmp .ne 5, 3) := by decide +kernel
theorem dX11_narrowed_87 : decode cX11_narrowed 87 = .ok (.iload_n 1, 1) := by decide +kernel
theorem dX11_narrowed_88 : decode cX11_narrowed 88 = .ok (.ireturn, 1) := by decide +kernel
theorem dX11_narrowed_89 : decode cX11_narrowed 89 = .ok (.aload_n 0, 1) := by decide +kernel
theorem dX11_narrowed_90 : decode cX11_narrowed 90 = .ok (.iload 4, 2) := by decide +kernel
theorem dX11_narrowed_92 : decode cX11_narrowed 92 = .ok (.invokevirtual 130, 3) := by decide +kernel
theorem dX11_narrowed_95 : decode cX11_narrowed 95 = .ok (.istore 6, 2) := by decide +kernel
theorem dX11_narrowed_97 : decode cX11_narrowed 97 = .ok (.aload_n 0, 1) := by decide +kernel
theorem dX11_narrowed_98 : decode cX11_narrowed 98 = .ok (.iload 5, 2) := by decide +kernel
theorem dX11_narrowed_100 : decode cX11_narrowed 100 = .ok (.invokevirtual 130, 3) := by decide +kernel
theorem dX11_narrowed_103 : decode cX11_narrowed 103 = .ok (.istore 7, 2) := by decide +kernel
theorem dX11_narrowed_105 : decode cX11_narrowed 105 = .ok (.aload_n 0, 1) := by decide +kernel
theorem dX11_narrowed_106 : decode cX11_narrowed 106 = .ok (.getfield 37, 3) := by decide +kernel
theorem dX11_narrowed_109 : decode cX11_narrowed 109 = .ok (.iconst 4, 1) := by decide +kernel
theorem dX11_narrowed_110 : decode cX11_narrowed 110 = .ok (.if_icmp .ne 7, 3) := by decide +kernel
theorem dX11_narrowed_113 : decode cX11_narrowed 113 = .ok (.iconst 1, 1) := by decide +kernel
theorem dX11_narrowed_114 : decode cX11_narrowed 114 = .ok (.goto 11, 3) := by decide +kernel
theorem dX11_narrowed_117 : decode cX11_narrowed 117 = .ok (.aload_n 0, 1) := by decide +kernel
theorem dX11_narrowed_118 : decode cX11_narrowed 118 = .ok (.getfield 9, 3) := by decide +kernel
theorem dX11_narrowed_121 : decode cX11_narrowed 121 = .ok (.sipush 229, 3) := by decide +kernel
theorem dX11_narrowed_124 : decode cX11_narrowed 124 = .ok (.iaload, 1) := by decide +kernel
theorem dX11_narrowed_125 : decode cX11_narrowed 125 = .ok (.istore 8, 2) := by decide +kernel
theorem dX11_narrowed_127 : decode cX11_narrowed 127 = .ok (.bipush 100, 2) := by decide +kernel
theorem dX11_narrowed_129 : decode cX11_narrowed 129 = .ok (.iload 6, 2) := by decide +kernel
theorem dX11_narrowed_131 : decode cX11_narrowed 131 = .ok (.imul, 1) := by decide +kernel
theorem dX11_narrowed_132 : decode cX11_narrowed 132 = .ok (.iload 8, 2) := by decide +kernel
theorem dX11_narrowed_134 : decode cX11_narrowed 134 = .ok (.iload 7, 2) := by decide +kernel
theorem dX11_narrowed_136 : decode cX11_narrowed 136 = .ok (.imul, 1) := by decide +kernel
theorem dX11_narrowed_137 : decode cX11_narrowed 137 = .ok (.if_icmp .lt 6, 3) := by decide +kernel
theorem dX11_narrowed_140 : decode cX11_narrowed 140 = .ok (.iload 4, 2) := by decide +kernel
theorem dX11_narrowed_142 : decode cX11_narrowed 142 = .ok (.ireturn, 1) := by decide +kernel
theorem dX11_narrowed_143 : decode cX11_narrowed 143 = .ok (.sipush 145, 3) := by decide +kernel
theorem dX11_narrowed_146 : decode cX11_narrowed 146 = .ok (.bipush 21, 2) := by decide +kernel
theorem dX11_narrowed_148 : decode cX11_narrowed 148 = .ok (.iload_n 2, 1) := by decide +kernel
theorem dX11_narrowed_149 : decode cX11_narrowed 149 = .ok (.imul, 1) := by decide +kernel
theorem dX11_narrowed_150 : decode cX11_narrowed 150 = .ok (.iadd, 1) := by decide +kernel
theorem dX11_narrowed_151 : decode cX11_narrowed 151 = .ok (.bipush 8, 2) := by decide +kernel
theorem dX11_narrowed_153 : decode cX11_narrowed 153 = .ok (.iadd, 1) := by decide +kernel
theorem dX11_narrowed_154 : decode cX11_narrowed 154 = .ok (.iload_n 3, 1) := by decide +kernel
theorem dX11_narrowed_155 : decode cX11_narrowed 155 = .ok (.iadd, 1) := by decide +kernel
theorem dX11_narrowed_156 : decode cX11_narrowed 156 = .ok (.istore 9, 2) := by decide +kernel
theorem dX11_narrowed_158 : decode cX11_narrowed 158 = .ok (.aload_n 0, 1) := by decide +kernel
theorem dX11_narrowed_159 : decode cX11_narrowed 159 = .ok (.getfield 9, 3) := by decide +kernel
theorem dX11_narrowed_162 : decode cX11_narrowed 162 = .ok (.iload 9, 2) := by decide +kernel
theorem dX11_narrowed_164 : decode cX11_narrowed 164 = .ok (.dup2, 1) := by decide +kernel
theorem dX11_narrowed_165 : decode cX11_narrowed 165 = .ok (.iaload, 1) := by decide +kernel
theorem dX11_narrowed_166 : decode cX11_narrowed 166 = .ok (.sipush 10000, 3) := by decide +kernel
theorem dX11_narrowed_169 : decode cX11_narrowed 169 = .ok (.iload 6, 2) := by decide +kernel
theorem dX11_narrowed_171 : decode cX11_narrowed 171 = .ok (.imul, 1) := by decide +kernel
theorem dX11_narrowed_172 : decode cX11_narrowed 172 = .ok (.iload 8, 2) := by decide +kernel
theorem dX11_narrowed_174 : decode cX11_narrowed 174 = .ok (.iload 7, 2) := by decide +kernel
theorem dX11_narrowed_176 : decode cX11_narrowed 176 = .ok (.imul, 1) := by decide +kernel
theorem dX11_narrowed_177 : decode cX11_narrowed 177 = .ok (.idiv, 1) := by decide +kernel
theorem dX11_narrowed_178 : decode cX11_narrowed 178 = .ok (.iadd, 1) := by decide +kernel
theorem dX11_narrowed_179 : decode cX11_narrowed 179 = .ok (.iastore, 1) := by decide +kernel
theorem dX11_narrowed_180 : decode cX11_narrowed 180 = .ok (.aload_n 0, 1) := by decide +kernel
theorem dX11_narrowed_181 : decode cX11_narrowed 181 = .ok (.getfield 9, 3) := by decide +kernel
theorem dX11_narrowed_184 : decode cX11_narrowed 184 = .ok (.iload 9, 2) := by decide +kernel
theorem dX11_narrowed_186 : decode cX11_narrowed 186 = .ok (.iaload, 1) := by decide +kernel
theorem dX11_narrowed_187 : decode cX11_narrowed 187 = .ok (.bipush 100, 2) := by decide +kernel
theorem dX11_narrowed_189 : decode cX11_narrowed 189 = .ok (.if_icmp .ge 10, 3) := by decide +kernel
theorem dX11_narrowed_192 : decode cX11_narrowed 192 = .ok (.iload_n 1, 1) := by decide +kernel
theorem dX11_narrowed_193 : decode cX11_narrowed 193 = .ok (.iload 4, 2) := by decide +kernel
theorem dX11_narrowed_195 : decode cX11_narrowed 195 = .ok (.iconst (-1), 1) := by decide +kernel
theorem dX11_narrowed_196 : decode cX11_narrowed 196 = .ok (.ixor, 1) := by decide +kernel
theorem dX11_narrowed_197 : decode cX11_narrowed 197 = .ok (.iand, 1) := by decide +kernel
theorem dX11_narrowed_198 : decode cX11_narrowed 198 = .ok (.ireturn, 1) := by decide +kernel
theorem dX11_narrowed_199 : decode cX11_narrowed 199 = .ok (.aload_n 0, 1) := by decide +kernel
theorem dX11_narrowed_200 : decode cX11_narrowed 200 = .ok (.getfield 9, 3) := by decide +kernel
theorem dX11_narrowed_203 : decode cX11_narrowed 203 = .ok (.iload 9, 2) := by decide +kernel
theorem dX11_narrowed_205 : decode cX11_narrowed 205 = .ok (.dup2, 1) := by decide +kernel
theorem dX11_narrowed_206 : decode cX11_narrowed 206 = .ok (.iaload, 1) := by decide +kernel
theorem dX11_narrowed_207 : decode cX11_narrowed 207 = .ok (.bipush 100, 2) := by decide +kernel
theorem dX11_narrowed_209 : decode cX11_narrowed 209 = .ok (.isub, 1) := by decide +kernel
theorem dX11_narrowed_210 : decode cX11_narrowed 210 = .ok (.iastore, 1) := by decide +kernel
theorem dX11_narrowed_211 : decode cX11_narrowed 211 = .ok (.iload 4, 2) := by decide +kernel
theorem dX11_narrowed_213 : decode cX11_narrowed 213 = .ok (.ireturn, 1) := by decide +kernel
theorem dX11_picks_0 : decode cX11_picks 0 = .ok (.aload_n 0, 1) := by decide +kernel
theorem dX11_picks_1 : decode cX11_picks 1 = .ok (.iload_n 1, 1) := by decide +kernel
theorem dX11_picks_2 : decode cX11_picks 2 = .ok (.iload_n 2, 1) := by decide +kernel
theorem dX11_picks_3 : decode cX11_picks 3 = .ok (.iload 4, 2) := by decide +kernel
theorem dX11_picks_5 : decode cX11_picks 5 = .ok (.invokevirtual 133, 3) := by decide +kernel
theorem dX11_picks_8 : decode cX11_picks 8 = .ok (.istore 5, 2) := by decide +kernel
theorem dX11_picks_10 : decode cX11_picks 10 = .ok (.sipush 145, 3) := by decide +kernel
theorem dX11_picks_13 : decode cX11_picks 13 = .ok (.bipush 21, 2) := by decide +kernel
theorem dX11_picks_15 : decode cX11_picks 15 = .ok (.iload_n 2, 1) := by decide +kernel
theorem dX11_picks_16 : decode cX11_picks 16 = .ok (.imul, 1) := by decide +kernel
theorem dX11_picks_17 : decode cX11_picks 17 = .ok (.iadd, 1) := by decide +kernel
theorem dX11_picks_18 : decode cX11_picks 18 = .ok (.istore 6, 2) := by decide +kernel
theorem dX11_picks_20 : decode cX11_picks 20 = .ok (.aload_n 0, 1) := by decide +kernel
theorem dX11_picks_21 : decode cX11_picks 21 = .ok (.getfield 37, 3) := by decide +kernel
theorem dX11_picks_24 : decode cX11_picks 24 = .ok (.iconst 3, 1) := by decide +kernel
theorem dX11_picks_25 : decode cX11_picks 25 = .ok (.if_icmp .ne 7, 3) := by decide +kernel
theorem dX11_picks_28 : decode cX11_picks 28 = .ok (.iconst 0, 1) := by decide +kernel
theorem dX11_picks_29 : decode cX11_picks 29 = .ok (.goto 10, 3) := by decide +kernel
theorem dX11_picks_32 : decode cX11_picks 32 = .ok (.aload_n 0, 1) := by decide +kernel
theorem dX11_picks_33 : decode cX11_picks 33 = .ok (.getfield 9, 3) := by decide +kernel
theorem dX11_picks_36 : decode cX11_picks 36 = .ok (.iload 6, 2) := by decide +kernel
theorem dX11_picks_38 : decode cX11_picks 38 = .ok (.iaload, 1) := by decide +kernel
theorem dX11_picks_39 : decode cX11_picks 39 = .ok (.istore 7, 2) := by decide +kernel
theorem dX11_picks_41 : decode cX11_picks 41 = .ok (.iload 7, 2) := by decide +kernel
theorem dX11_picks_43 : decode cX11_picks 43 = .ok (.iconst 2, 1) := by decide +kernel
theorem dX11_picks_44 : decode cX11_picks 44 = .ok (.if_icmp .ge 24, 3) := by decide +kernel
theorem dX11_picks_47 : decode cX11_picks 47 = .ok (.iload 7, 2) := by decide +kernel
theorem dX11_picks_49 : decode cX11_picks 49 = .ok (.ifCond .ne 12, 3) := by decide +kernel
theorem dX11_picks_52 : decode cX11_picks 52 = .ok (.aload_n 0, 1) := by decide +kernel
theorem dX11_picks_53 : decode cX11_picks 53 = .ok (.iload 5, 2) := by decide +kernel
theorem dX11_picks_55 : decode cX11_picks 55 = .ok (.invokevirtual 137, 3) := by decide +kernel
theorem dX11_picks_58 : decode cX11_picks 58 = .ok (.goto 9, 3) := by decide +kernel
theorem dX11_picks_61 : decode cX11_picks 61 = .ok (.aload_n 0, 1) := by decide +kernel
theorem dX11_picks_62 : decode cX11_picks 62 = .ok (.iload 5, 2) := by decide +kernel
theorem dX11_picks_64 : decode cX11_picks 64 = .ok (.invokevirtual 140, 3) := by decide +kernel
theorem dX11_picks_67 : decode cX11_picks 67 = .ok (.ireturn, 1) := by decide +kernel
theorem dX11_picks_68 : decode cX11_picks 68 = .ok (.aload_n 0, 1) := by decide +kernel
theorem dX11_picks_69 : decode cX11_picks 69 = .ok (.getfield 9, 3) := by decide +kernel
theorem dX11_picks_72 : decode cX11_picks 72 = .ok (.iload 6, 2) := by decide +kernel
theorem dX11_picks_74 : decode cX11_picks 74 = .ok (.bipush 11, 2) := by decide +kernel
theorem dX11_picks_76 : decode cX11_picks 76 = .ok (.iadd, 1) := by decide +kernel
theorem dX11_picks_77 : decode cX11_picks 77 = .ok (.iload_n 3, 1) := by decide +kernel
theorem dX11_picks_78 : decode cX11_picks 78 = .ok (.iadd, 1) := by decide +kernel
theorem dX11_picks_79 : decode cX11_picks 79 = .ok (.iaload, 1) := by decide +kernel
theorem dX11_picks_80 : decode cX11_picks 80 = .ok (.istore 8, 2) := by decide +kernel
theorem dX11_picks_82 : decode cX11_picks 82 = .ok (.iload 8, 2) := by decide +kernel
theorem dX11_picks_84 : decode cX11_picks 84 = .ok (.ifCond .lt 17, 3) := by decide +kernel
theorem dX11_picks_87 : decode cX11_picks 87 = .ok (.iload 5, 2) := by decide +kernel
theorem dX11_picks_89 : decode cX11_picks 89 = .ok (.iload 8, 2) := by decide +kernel
theorem dX11_picks_91 : decode cX11_picks 91 = .ok (.ishr, 1) := by decide +kernel
theorem dX11_picks_92 : decode cX11_picks 92 = .ok (.iconst 1, 1) := by decide +kernel
theorem dX11_picks_93 : decode cX11_picks 93 = .ok (.iand, 1) := by decide +kernel
theorem dX11_picks_94 : decode cX11_picks 94 = .ok (.iconst 1, 1) := by decide +kernel
theorem dX11_picks_95 : decode cX11_picks 95 = .ok (.if_icmp .ne 6, 3) := by decide +kernel
theorem dX11_picks_98 : decode cX11_picks 98 = .ok (.iload 8, 2) := by decide +kernel
theorem dX11_picks_100 : decode cX11_picks 100 = .ok (.ireturn, 1) := by decide +kernel
theorem dX11_picks_101 : decode cX11_picks 101 = .ok (.aload_n 0, 1) := by decide +kernel
theorem dX11_picks_102 : decode cX11_picks 102 = .ok (.getfield 9, 3) := by decide +kernel
theorem dX11_picks_105 : decode cX11_picks 105 = .ok (.iload 6, 2) := by decide +kernel
theorem dX11_picks_107 : decode cX11_picks 107 = .ok (.bipush 11, 2) := by decide +kernel
theorem dX11_picks_109 : decode cX11_picks 109 = .ok (.iadd, 1) := by decide +kernel
theorem dX11_picks_110 : decode cX11_picks 110 = .ok (.iload_n 3, 1) := by decide +kernel
theorem dX11_picks_111 : decode cX11_picks 111 = .ok (.iadd, 1) := by decide +kernel
theorem dX11_picks_112 : decode cX11_picks 112 = .ok (.aload_n 0, 1) := by decide +kernel
theorem dX11_picks_113 : decode cX11_picks 113 = .ok (.iload 5, 2) := by decide +kernel
theorem dX11_picks_115 : decode cX11_picks 115 = .ok (.invokevirtual 137, 3) := by decide +kernel
theorem dX11_picks_118 : decode cX11_picks 118 = .ok (.iastore, 1) := by decide +kernel
theorem dX11_picks_119 : decode cX11_picks 119 = .ok (.aload_n 0, 1) := by decide +kernel
theorem dX11_picks_120 : decode cX11_picks 120 = .ok (.getfield 9, 3) := by decide +kernel
theorem dX11_picks_123 : decode cX11_picks 123 = .ok (.iload 6, 2) := by decide +kernel
theorem dX11_picks_125 : decode cX11_picks 125 = .ok (.bipush 11, 2) := by decide +kernel
theorem dX11_picks_127 : decode cX11_picks 127 = .ok (.iadd, 1) := by decide +kernel
theorem dX11_picks_128 : decode cX11_picks 128 = .ok (.iload_n 3, 1) := by decide +kernel
theorem dX11_picks_129 : decode cX11_picks 129 = .ok (.iadd, 1) := by decide +kernel
theorem dX11_picks_130 : decode cX11_picks 130 = .ok (.iaload, 1) := by decide +kernel
theorem dX11_picks_131 : decode cX11_picks 131 = .ok (.ireturn, 1) := by decide +kernel
theorem dX11_ejects_0 : decode cX11_ejects 0 = .ok (.iconst 0, 1) := by decide +kernel
theorem dX11_ejects_1 : decode cX11_ejects 1 = .ok (.istore_n 3, 1) := by decide +kernel
theorem dX11_ejects_2 : decode cX11_ejects 2 = .ok (.iconst 0, 1) := by decide +kernel
theorem dX11_ejects_3 : decode cX11_ejects 3 = .ok (.istore 4, 2) := by decide +kernel
theorem dX11_ejects_5 : decode cX11_ejects 5 = .ok (.iconst 0, 1) := by decide +kernel
theorem dX11_ejects_6 : decode cX11_ejects 6 = .ok (.istore 5, 2) := by decide +kernel
theorem dX11_ejects_8 : decode cX11_ejects 8 = .ok (.iload 5, 2) := by decide +kernel
theorem dX11_ejects_10 : decode cX11_ejects 10 = .ok (.aload_n 0, 1) := by decide +kernel
theorem dX11_ejects_11 : decode cX11_ejects 11 = .ok (.getfield 9, 3) := by decide +kernel
theorem dX11_ejects_14 : decode cX11_ejects 14 = .ok (.sipush 144, 3) := by decide +kernel
theorem dX11_ejects_17 : decode cX11_ejects 17 = .ok (.iaload, 1) := by decide +kernel
theorem dX11_ejects_18 : decode cX11_ejects 18 = .ok (.if_icmp .ge 58, 3) := by decide +kernel
theorem dX11_ejects_21 : decode cX11_ejects 21 = .ok (.iload_n 3, 1) := by decide +kernel
theorem dX11_ejects_22 : decode cX11_ejects 22 = .ok (.aload_n 0, 1) := by decide +kernel
theorem dX11_ejects_23 : decode cX11_ejects 23 = .ok (.iload 5, 2) := by decide +kernel
theorem dX11_ejects_25 : decode cX11_ejects 25 = .ok (.iload_n 2, 1) := by decide +kernel
theorem dX11_ejects_26 : decode cX11_ejects 26 = .ok (.invokevirtual 121, 3) := by decide +kernel
theorem dX11_ejects_29 : decode cX11_ejects 29 = .ok (.ifCond .eq 7, 3) := by decide +kernel
theorem dX11_ejects_32 : decode cX11_ejects 32 = .ok (.iconst 1, 1) := by decide +kernel
theorem dX11_ejects_33 : decode cX11_ejects 33 = .ok (.goto 4, 3) := by decide +kernel
theorem dX11_ejects_36 : decode cX11_ejects 36 = .ok (.iconst 0, 1) := by decide +kernel
theorem dX11_ejects_37 : decode cX11_ejects 37 = .ok (.iadd, 1) := by decide +kernel
theorem dX11_ejects_38 : decode cX11_ejects 38 = .ok (.istore_n 3, 1) := by decide +kernel
theorem dX11_ejects_39 : decode cX11_ejects 39 = .ok (.iload 4, 2) := by decide +kernel
theorem dX11_ejects_41 : decode cX11_ejects 41 = .ok (.aload_n 0, 1) := by decide +kernel
theorem dX11_ejects_42 : decode cX11_ejects 42 = .ok (.iload 5, 2) := by decide +kernel
theorem dX11_ejects_44 : decode cX11_ejects 44 = .ok (.iload_n 2, 1) := by decide +kernel
theorem dX11_ejects_45 : decode cX11_ejects 45 = .ok (.invokevirtual 121, 3) := by decide +kernel
theorem dX11_ejects_48 : decode cX11_ejects 48 = .ok (.ifCond .eq 18, 3) := by decide +kernel
theorem dX11_ejects_51 : decode cX11_ejects 51 = .ok (.aload_n 0, 1) := by decide +kernel
theorem dX11_ejects_52 : decode cX11_ejects 52 = .ok (.iload 5, 2) := by decide +kernel
theorem dX11_ejects_54 : decode cX11_ejects 54 = .ok (.bipush 9, 2) := by decide +kernel
theorem dX11_ejects_56 : decode cX11_ejects 56 = .ok (.invokevirtual 66, 3) := by decide +kernel
theorem dX11_ejects_59 : decode cX11_ejects 59 = .ok (.ifCond .le 7, 3) := by decide +kernel
theorem dX11_ejects_62 : decode cX11_ejects 62 = .ok (.iconst 1, 1) := by decide +kernel
theorem dX11_ejects_63 : decode cX11_ejects 63 = .ok (.goto 4, 3) := by decide +kernel
theorem dX11_ejects_66 : decode cX11_ejects 66 = .ok (.iconst 0, 1) := by decide +kernel
theorem dX11_ejects_67 : decode cX11_ejects 67 = .ok (.iadd, 1) := by decide +kernel
theorem dX11_ejects_68 : decode cX11_ejects 68 = .ok (.istore 4, 2) := by decide +kernel
theorem dX11_ejects_70 : decode cX11_ejects 70 = .ok (.iinc 5 1, 3) := by decide +kernel
theorem dX11_ejects_73 : decode cX11_ejects 73 = .ok (.goto (-65), 3) := by decide +kernel
theorem dX11_ejects_76 : decode cX11_ejects 76 = .ok (.sipush 145, 3) := by decide +kernel
theorem dX11_ejects_79 : decode cX11_ejects 79 = .ok (.bipush 21, 2) := by decide +kernel
theorem dX11_ejects_81 : decode cX11_ejects 81 = .ok (.iload_n 2, 1) := by decide +kernel
theorem dX11_ejects_82 : decode cX11_ejects 82 = .ok (.imul, 1) := by decide +kernel
theorem dX11_ejects_83 : decode cX11_ejects 83 = .ok (.iadd, 1) := by decide +kernel
theorem dX11_ejects_84 : decode cX11_ejects 84 = .ok (.istore 5, 2) := by decide +kernel
theorem dX11_ejects_86 : decode cX11_ejects 86 = .ok (.aload_n 0, 1) := by decide +kernel
theorem dX11_ejects_87 : decode cX11_ejects 87 = .ok (.getfield 37, 3) := by decide +kernel
theorem dX11_ejects_90 : decode cX11_ejects 90 = .ok (.iconst 2, 1) := by decide +kernel
theorem dX11_ejects_91 : decode cX11_ejects 91 = .ok (.if_icmp .eq 43, 3) := by decide +kernel
theorem dX11_ejects_94 : decode cX11_ejects 94 = .ok (.aload_n 0, 1) := by decide +kernel
theorem dX11_ejects_95 : decode cX11_ejects 95 = .ok (.iload_n 1, 1) := by decide +kernel
theorem dX11_ejects_96 : decode cX11_ejects 96 = .ok (.bipush 7, 2) := by decide +kernel
theorem dX11_ejects_98 : decode cX11_ejects 98 = .ok (.invokevirtual 66, 3) := by decide +kernel
theorem dX11_ejects_101 : decode cX11_ejects 101 = .ok (.aload_n 0, 1) := by decide +kernel
theorem dX11_ejects_102 : decode cX11_ejects 102 = .ok (.getfield 9, 3) := by decide +kernel
theorem dX11_ejects_105 : decode cX11_ejects 105 = .ok (.iload 5, 2) := by decide +kernel
theorem dX11_ejects_107 : decode cX11_ejects 107 = .ok (.iconst 1, 1) := by decide +kernel
theorem dX11_ejects_108 : decode cX11_ejects 108 = .ok (.iadd, 1) := by decide +kernel
theorem dX11_ejects_109 : decode cX11_ejects 109 = .ok (.iaload, 1) := by decide +kernel
theorem dX11_ejects_110 : decode cX11_ejects 110 = .ok (.if_icmp .lt 24, 3) := by decide +kernel
theorem dX11_ejects_113 : decode cX11_ejects 113 = .ok (.iload 4, 2) := by decide +kernel
theorem dX11_ejects_115 : decode cX11_ejects 115 = .ok (.iconst 1, 1) := by decide +kernel
theorem dX11_ejects_116 : decode cX11_ejects 116 = .ok (.iadd, 1) := by decide +kernel
theorem dX11_ejects_117 : decode cX11_ejects 117 = .ok (.bipush 100, 2) := by decide +kernel
theorem dX11_ejects_119 : decode cX11_ejects 119 = .ok (.imul, 1) := by decide +kernel
theorem dX11_ejects_120 : decode cX11_ejects 120 = .ok (.aload_n 0, 1) := by decide +kernel
theorem dX11_ejects_121 : decode cX11_ejects 121 = .ok (.getfield 9, 3) := by decide +kernel
theorem dX11_ejects_124 : decode cX11_ejects 124 = .ok (.iload 5, 2) := by decide +kernel
theorem dX11_ejects_126 : decode cX11_ejects 126 = .ok (.iconst 3, 1) := by decide +kernel
theorem dX11_ejects_127 : decode cX11_ejects 127 = .ok (.iadd, 1) := by decide +kernel
theorem dX11_ejects_128 : decode cX11_ejects 128 = .ok (.iaload, 1) := by decide +kernel
theorem dX11_ejects_129 : decode cX11_ejects 129 = .ok (.iload_n 3, 1) := by decide +kernel
theorem dX11_ejects_130 : decode cX11_ejects 130 = .ok (.imul, 1) := by decide +kernel
theorem dX11_ejects_131 : decode cX11_ejects 131 = .ok (.if_icmp .le 4, 3) := by decide +kernel
theorem dX11_ejects_134 : decode cX11_ejects 134 = .ok (.return_, 1) := by decide +kernel
theorem dX11_ejects_135 : decode cX11_ejects 135 = .ok (.aload_n 0, 1) := by decide +kernel
theorem dX11_ejects_136 : decode cX11_ejects 136 = .ok (.iload_n 1, 1) := by decide +kernel
theorem dX11_ejects_137 : decode cX11_ejects 137 = .ok (.bipush 8, 2) := by decide +kernel
theorem dX11_ejects_139 : decode cX11_ejects 139 = .ok (.aload_n 0, 1) := by decide +kernel
theorem dX11_ejects_140 : decode cX11_ejects 140 = .ok (.iload_n 1, 1) := by decide +kernel
theorem dX11_ejects_141 : decode cX11_ejects 141 = .ok (.bipush 8, 2) := by decide +kernel
theorem dX11_ejects_143 : decode cX11_ejects 143 = .ok (.invokevirtual 66, 3) := by decide +kernel
theorem dX11_ejects_146 : decode cX11_ejects 146 = .ok (.iconst 1, 1) := by decide +kernel
theorem dX11_ejects_147 : decode cX11_ejects 147 = .ok (.iadd, 1) := by decide +kernel
theorem dX11_ejects_148 : decode cX11_ejects 148 = .ok (.invokevirtual 58, 3) := by decide +kernel
theorem dX11_ejects_151 : decode cX11_ejects 151 = .ok (.aload_n 0, 1) := by decide +kernel
theorem dX11_ejects_152 : decode cX11_ejects 152 = .ok (.iload_n 1, 1) := by decide +kernel
theorem dX11_ejects_153 : decode cX11_ejects 153 = .ok (.bipush 7, 2) := by decide +kernel
theorem dX11_ejects_155 : decode cX11_ejects 155 = .ok (.iconst 0, 1) := by decide +kernel
theorem dX11_ejects_156 : decode cX11_ejects 156 = .ok (.invokevirtual 58, 3) := by decide +kernel
theorem dX11_ejects_159 : decode cX11_ejects 159 = .ok (.aload_n 0, 1) := by decide +kernel
theorem dX11_ejects_160 : decode cX11_ejects 160 = .ok (.iload_n 1, 1) := by decide +kernel
theorem dX11_ejects_161 : decode cX11_ejects 161 = .ok (.bipush 9, 2) := by decide +kernel
theorem dX11_ejects_163 : decode cX11_ejects 163 = .ok (.aload_n 0, 1) := by decide +kernel
theorem dX11_ejects_164 : decode cX11_ejects 164 = .ok (.getfield 9, 3) := by decide +kernel
theorem dX11_ejects_167 : decode cX11_ejects 167 = .ok (.iload 5, 2) := by decide +kernel
theorem dX11_ejects_169 : decode cX11_ejects 169 = .ok (.iconst 2, 1) := by decide +kernel
theorem dX11_ejects_170 : decode cX11_ejects 170 = .ok (.iadd, 1) := by decide +kernel
theorem dX11_ejects_171 : decode cX11_ejects 171 = .ok (.iaload, 1) := by decide +kernel
theorem dX11_ejects_172 : decode cX11_ejects 172 = .ok (.aload_n 0, 1) := by decide +kernel
theorem dX11_ejects_173 : decode cX11_ejects 173 = .ok (.iload_n 1, 1) := by decide +kernel
theorem dX11_ejects_174 : decode cX11_ejects 174 = .ok (.bipush 8, 2) := by decide +kernel
theorem dX11_ejects_176 : decode cX11_ejects 176 = .ok (.invokevirtual 66, 3) := by decide +kernel
theorem dX11_ejects_179 : decode cX11_ejects 179 = .ok (.imul, 1) := by decide +kernel
theorem dX11_ejects_180 : decode cX11_ejects 180 = .ok (.invokevirtual 58, 3) := by decide +kernel
theorem dX11_ejects_183 : decode cX11_ejects 183 = .ok (.aload_n 0, 1) := by decide +kernel
theorem dX11_ejects_184 : decode cX11_ejects 184 = .ok (.getfield 9, 3) := by decide +kernel
theorem dX11_ejects_187 : decode cX11_ejects 187 = .ok (.sipush 704, 3) := by decide +kernel
theorem dX11_ejects_190 : decode cX11_ejects 190 = .ok (.dup2, 1) := by decide +kernel
theorem dX11_ejects_191 : decode cX11_ejects 191 = .ok (.iaload, 1) := by decide +kernel
theorem dX11_ejects_192 : decode cX11_ejects 192 = .ok (.iconst 1, 1) := by decide +kernel
theorem dX11_ejects_193 : decode cX11_ejects 193 = .ok (.iadd, 1) := by decide +kernel
theorem dX11_ejects_194 : decode cX11_ejects 194 = .ok (.iastore, 1) := by decide +kernel
theorem dX11_ejects_195 : decode cX11_ejects 195 = .ok (.return_, 1) := by decide +kernel
theorem dX11_tries_0 : decode cX11_tries 0 = .ok (.aload_n 0, 1) := by decide +kernel
theorem dX11_tries_1 : decode cX11_tries 1 = .ok (.iload_n 1, 1) := by decide +kernel
theorem dX11_tries_2 : decode cX11_tries 2 = .ok (.iconst 3, 1) := by decide +kernel
theorem dX11_tries_3 : decode cX11_tries 3 = .ok (.invokevirtual 66, 3) := by decide +kernel
theorem dX11_tries_6 : decode cX11_tries 6 = .ok (.aload_n 0, 1) := by decide +kernel
theorem dX11_tries_7 : decode cX11_tries 7 = .ok (.iload_n 1, 1) := by decide +kernel
theorem dX11_tries_8 : decode cX11_tries 8 = .ok (.iconst 5, 1) := by decide +kernel
theorem dX11_tries_9 : decode cX11_tries 9 = .ok (.invokevirtual 66, 3) := by decide +kernel
theorem dX11_tries_12 : decode cX11_tries 12 = .ok (.bipush 8, 2) := by decide +kernel
theorem dX11_tries_14 : decode cX11_tries 14 = .ok (.irem, 1) := by decide +kernel
theorem dX11_tries_15 : decode cX11_tries 15 = .ok (.ishr, 1) := by decide +kernel
theorem dX11_tries_16 : decode cX11_tries 16 = .ok (.iconst 1, 1) := by decide +kernel
theorem dX11_tries_17 : decode cX11_tries 17 = .ok (.iand, 1) := by decide +kernel
theorem dX11_tries_18 : decode cX11_tries 18 = .ok (.iconst 1, 1) := by decide +kernel
theorem dX11_tries_19 : decode cX11_tries 19 = .ok (.if_icmp .ne 7, 3) := by decide +kernel
theorem dX11_tries_22 : decode cX11_tries 22 = .ok (.iconst 1, 1) := by decide +kernel
theorem dX11_tries_23 : decode cX11_tries 23 = .ok (.goto 4, 3) := by decide +kernel
theorem dX11_tries_26 : decode cX11_tries 26 = .ok (.iconst 0, 1) := by decide +kernel
theorem dX11_tries_27 : decode cX11_tries 27 = .ok (.istore 4, 2) := by decide +kernel
theorem dX11_tries_29 : decode cX11_tries 29 = .ok (.aload_n 0, 1) := by decide +kernel
theorem dX11_tries_30 : decode cX11_tries 30 = .ok (.iload_n 1, 1) := by decide +kernel
theorem dX11_tries_31 : decode cX11_tries 31 = .ok (.iconst 5, 1) := by decide +kernel
theorem dX11_tries_32 : decode cX11_tries 32 = .ok (.aload_n 0, 1) := by decide +kernel
theorem dX11_tries_33 : decode cX11_tries 33 = .ok (.iload_n 1, 1) := by decide +kernel
theorem dX11_tries_34 : decode cX11_tries 34 = .ok (.iconst 5, 1) := by decide +kernel
theorem dX11_tries_35 : decode cX11_tries 35 = .ok (.invokevirtual 66, 3) := by decide +kernel
theorem dX11_tries_38 : decode cX11_tries 38 = .ok (.iconst 1, 1) := by decide +kernel
theorem dX11_tries_39 : decode cX11_tries 39 = .ok (.iadd, 1) := by decide +kernel
theorem dX11_tries_40 : decode cX11_tries 40 = .ok (.invokevirtual 58, 3) := by decide +kernel
theorem dX11_tries_43 : decode cX11_tries 43 = .ok (.aload_n 0, 1) := by decide +kernel
theorem dX11_tries_44 : decode cX11_tries 44 = .ok (.iload_n 1, 1) := by decide +kernel
theorem dX11_tries_45 : decode cX11_tries 45 = .ok (.bipush 6, 2) := by decide +kernel
theorem dX11_tries_47 : decode cX11_tries 47 = .ok (.aload_n 0, 1) := by decide +kernel
theorem dX11_tries_48 : decode cX11_tries 48 = .ok (.iload_n 1, 1) := by decide +kernel
theorem dX11_tries_49 : decode cX11_tries 49 = .ok (.bipush 6, 2) := by decide +kernel
theorem dX11_tries_51 : decode cX11_tries 51 = .ok (.invokevirtual 66, 3) := by decide +kernel
theorem dX11_tries_54 : decode cX11_tries 54 = .ok (.iload 4, 2) := by decide +kernel
theorem dX11_tries_56 : decode cX11_tries 56 = .ok (.ifCond .eq 7, 3) := by decide +kernel
theorem dX11_tries_59 : decode cX11_tries 59 = .ok (.iconst 1, 1) := by decide +kernel
theorem dX11_tries_60 : decode cX11_tries 60 = .ok (.goto 4, 3) := by decide +kernel
theorem dX11_tries_63 : decode cX11_tries 63 = .ok (.iconst 0, 1) := by decide +kernel
theorem dX11_tries_64 : decode cX11_tries 64 = .ok (.iadd, 1) := by decide +kernel
theorem dX11_tries_65 : decode cX11_tries 65 = .ok (.invokevirtual 58, 3) := by decide +kernel
theorem dX11_tries_68 : decode cX11_tries 68 = .ok (.aload_n 0, 1) := by decide +kernel
theorem dX11_tries_69 : decode cX11_tries 69 = .ok (.iload_n 1, 1) := by decide +kernel
theorem dX11_tries_70 : decode cX11_tries 70 = .ok (.bipush 7, 2) := by decide +kernel
theorem dX11_tries_72 : decode cX11_tries 72 = .ok (.iload 4, 2) := by decide +kernel
theorem dX11_tries_74 : decode cX11_tries 74 = .ok (.ifCond .eq 7, 3) := by decide +kernel
theorem dX11_tries_77 : decode cX11_tries 77 = .ok (.iconst 0, 1) := by decide +kernel
theorem dX11_tries_78 : decode cX11_tries 78 = .ok (.goto 12, 3) := by decide +kernel
theorem dX11_tries_81 : decode cX11_tries 81 = .ok (.aload_n 0, 1) := by decide +kernel
theorem dX11_tries_82 : decode cX11_tries 82 = .ok (.iload_n 1, 1) := by decide +kernel
theorem dX11_tries_83 : decode cX11_tries 83 = .ok (.bipush 7, 2) := by decide +kernel
theorem dX11_tries_85 : decode cX11_tries 85 = .ok (.invokevirtual 66, 3) := by decide +kernel
theorem dX11_tries_88 : decode cX11_tries 88 = .ok (.iconst 1, 1) := by decide +kernel
theorem dX11_tries_89 : decode cX11_tries 89 = .ok (.iadd, 1) := by decide +kernel
theorem dX11_tries_90 : decode cX11_tries 90 = .ok (.invokevirtual 58, 3) := by decide +kernel
theorem dX11_tries_93 : decode cX11_tries 93 = .ok (.aload_n 0, 1) := by decide +kernel
theorem dX11_tries_94 : decode cX11_tries 94 = .ok (.getfield 9, 3) := by decide +kernel
theorem dX11_tries_97 : decode cX11_tries 97 = .ok (.sipush 702, 3) := by decide +kernel
theorem dX11_tries_100 : decode cX11_tries 100 = .ok (.dup2, 1) := by decide +kernel
theorem dX11_tries_101 : decode cX11_tries 101 = .ok (.iaload, 1) := by decide +kernel
theorem dX11_tries_102 : decode cX11_tries 102 = .ok (.iconst 1, 1) := by decide +kernel
theorem dX11_tries_103 : decode cX11_tries 103 = .ok (.iadd, 1) := by decide +kernel
theorem dX11_tries_104 : decode cX11_tries 104 = .ok (.iastore, 1) := by decide +kernel
theorem dX11_tries_105 : decode cX11_tries 105 = .ok (.iload 4, 2) := by decide +kernel
theorem dX11_tries_107 : decode cX11_tries 107 = .ok (.ifCond .ne 9, 3) := by decide +kernel
theorem dX11_tries_110 : decode cX11_tries 110 = .ok (.aload_n 0, 1) := by decide +kernel
theorem dX11_tries_111 : decode cX11_tries 111 = .ok (.iload_n 1, 1) := by decide +kernel
theorem dX11_tries_112 : decode cX11_tries 112 = .ok (.iload_n 2, 1) := by decide +kernel
theorem dX11_tries_113 : decode cX11_tries 113 = .ok (.invokevirtual 143, 3) := by decide +kernel
theorem dX11_tries_116 : decode cX11_tries 116 = .ok (.sipush 707, 3) := by decide +kernel
theorem dX11_tries_119 : decode cX11_tries 119 = .ok (.iconst 4, 1) := by decide +kernel
theorem dX11_tries_120 : decode cX11_tries 120 = .ok (.aload_n 0, 1) := by decide +kernel
theorem dX11_tries_121 : decode cX11_tries 121 = .ok (.getfield 9, 3) := by decide +kernel
theorem dX11_tries_124 : decode cX11_tries 124 = .ok (.sipush 706, 3) := by decide +kernel
theorem dX11_tries_127 : decode cX11_tries 127 = .ok (.iaload, 1) := by decide +kernel
theorem dX11_tries_128 : decode cX11_tries 128 = .ok (.imul, 1) := by decide +kernel
theorem dX11_tries_129 : decode cX11_tries 129 = .ok (.iadd, 1) := by decide +kernel
theorem dX11_tries_130 : decode cX11_tries 130 = .ok (.istore 5, 2) := by decide +kernel
theorem dX11_tries_132 : decode cX11_tries 132 = .ok (.aload_n 0, 1) := by decide +kernel
theorem dX11_tries_133 : decode cX11_tries 133 = .ok (.getfield 9, 3) := by decide +kernel
theorem dX11_tries_136 : decode cX11_tries 136 = .ok (.iload 5, 2) := by decide +kernel
theorem dX11_tries_138 : decode cX11_tries 138 = .ok (.iload_n 1, 1) := by decide +kernel
theorem dX11_tries_139 : decode cX11_tries 139 = .ok (.iastore, 1) := by decide +kernel
theorem dX11_tries_140 : decode cX11_tries 140 = .ok (.aload_n 0, 1) := by decide +kernel
theorem dX11_tries_141 : decode cX11_tries 141 = .ok (.getfield 9, 3) := by decide +kernel
theorem dX11_tries_144 : decode cX11_tries 144 = .ok (.iload 5, 2) := by decide +kernel
theorem dX11_tries_146 : decode cX11_tries 146 = .ok (.iconst 1, 1) := by decide +kernel
theorem dX11_tries_147 : decode cX11_tries 147 = .ok (.iadd, 1) := by decide +kernel
theorem dX11_tries_148 : decode cX11_tries 148 = .ok (.iload 4, 2) := by decide +kernel
theorem dX11_tries_150 : decode cX11_tries 150 = .ok (.ifCond .eq 7, 3) := by decide +kernel
theorem dX11_tries_153 : decode cX11_tries 153 = .ok (.iconst 1, 1) := by decide +kernel
theorem dX11_tries_154 : decode cX11_tries 154 = .ok (.goto 4, 3) := by decide +kernel
theorem dX11_tries_157 : decode cX11_tries 157 = .ok (.iconst 0, 1) := by decide +kernel
theorem dX11_tries_158 : decode cX11_tries 158 = .ok (.iastore, 1) := by decide +kernel
theorem dX11_tries_159 : decode cX11_tries 159 = .ok (.aload_n 0, 1) := by decide +kernel
theorem dX11_tries_160 : decode cX11_tries 160 = .ok (.getfield 9, 3) := by decide +kernel
theorem dX11_tries_163 : decode cX11_tries 163 = .ok (.iload 5, 2) := by decide +kernel
theorem dX11_tries_165 : decode cX11_tries 165 = .ok (.iconst 2, 1) := by decide +kernel
theorem dX11_tries_166 : decode cX11_tries 166 = .ok (.iadd, 1) := by decide +kernel
theorem dX11_tries_167 : decode cX11_tries 167 = .ok (.aload_n 0, 1) := by decide +kernel
theorem dX11_tries_168 : decode cX11_tries 168 = .ok (.iload_n 1, 1) := by decide +kernel
theorem dX11_tries_169 : decode cX11_tries 169 = .ok (.iconst 1, 1) := by decide +kernel
theorem dX11_tries_170 : decode cX11_tries 170 = .ok (.invokevirtual 66, 3) := by decide +kernel
theorem dX11_tries_173 : decode cX11_tries 173 = .ok (.iload_n 3, 1) := by decide +kernel
theorem dX11_tries_174 : decode cX11_tries 174 = .ok (.if_icmp .ne 7, 3) := by decide +kernel
theorem dX11_tries_177 : decode cX11_tries 177 = .ok (.iconst 1, 1) := by decide +kernel
theorem dX11_tries_178 : decode cX11_tries 178 = .ok (.goto 4, 3) := by decide +kernel
theorem dX11_tries_181 : decode cX11_tries 181 = .ok (.iconst 0, 1) := by decide +kernel
theorem dX11_tries_182 : decode cX11_tries 182 = .ok (.iastore, 1) := by decide +kernel
theorem dX11_tries_183 : decode cX11_tries 183 = .ok (.aload_n 0, 1) := by decide +kernel
theorem dX11_tries_184 : decode cX11_tries 184 = .ok (.getfield 9, 3) := by decide +kernel
theorem dX11_tries_187 : decode cX11_tries 187 = .ok (.iload 5, 2) := by decide +kernel
theorem dX11_tries_189 : decode cX11_tries 189 = .ok (.iconst 3, 1) := by decide +kernel
theorem dX11_tries_190 : decode cX11_tries 190 = .ok (.iadd, 1) := by decide +kernel
theorem dX11_tries_191 : decode cX11_tries 191 = .ok (.aload_n 0, 1) := by decide +kernel
theorem dX11_tries_192 : decode cX11_tries 192 = .ok (.iload_n 1, 1) := by decide +kernel
theorem dX11_tries_193 : decode cX11_tries 193 = .ok (.bipush 9, 2) := by decide +kernel
theorem dX11_tries_195 : decode cX11_tries 195 = .ok (.invokevirtual 66, 3) := by decide +kernel
theorem dX11_tries_198 : decode cX11_tries 198 = .ok (.ifCond .le 7, 3) := by decide +kernel
theorem dX11_tries_201 : decode cX11_tries 201 = .ok (.iconst 1, 1) := by decide +kernel
theorem dX11_tries_202 : decode cX11_tries 202 = .ok (.goto 4, 3) := by decide +kernel
theorem dX11_tries_205 : decode cX11_tries 205 = .ok (.iconst 0, 1) := by decide +kernel
theorem dX11_tries_206 : decode cX11_tries 206 = .ok (.iastore, 1) := by decide +kernel
theorem dX11_tries_207 : decode cX11_tries 207 = .ok (.aload_n 0, 1) := by decide +kernel
theorem dX11_tries_208 : decode cX11_tries 208 = .ok (.getfield 9, 3) := by decide +kernel
theorem dX11_tries_211 : decode cX11_tries 211 = .ok (.sipush 706, 3) := by decide +kernel
theorem dX11_tries_214 : decode cX11_tries 214 = .ok (.dup2, 1) := by decide +kernel
theorem dX11_tries_215 : decode cX11_tries 215 = .ok (.iaload, 1) := by decide +kernel
theorem dX11_tries_216 : decode cX11_tries 216 = .ok (.iconst 1, 1) := by decide +kernel
theorem dX11_tries_217 : decode cX11_tries 217 = .ok (.iadd, 1) := by decide +kernel
theorem dX11_tries_218 : decode cX11_tries 218 = .ok (.iastore, 1) := by decide +kernel
theorem dX11_tries_219 : decode cX11_tries 219 = .ok (.iload 4, 2) := by decide +kernel
theorem dX11_tries_221 : decode cX11_tries 221 = .ok (.ireturn, 1) := by decide +kernel
theorem dX11_mirrors_0 : decode cX11_mirrors 0 = .ok (.iconst (-1), 1) := by decide +kernel
theorem dX11_mirrors_1 : decode cX11_mirrors 1 = .ok (.istore_n 2, 1) := by decide +kernel
theorem dX11_mirrors_2 : decode cX11_mirrors 2 = .ok (.iconst 0, 1) := by decide +kernel
theorem dX11_mirrors_3 : decode cX11_mirrors 3 = .ok (.istore_n 3, 1) := by decide +kernel
theorem dX11_mirrors_4 : decode cX11_mirrors 4 = .ok (.iload_n 3, 1) := by decide +kernel
theorem dX11_mirrors_5 : decode cX11_mirrors 5 = .ok (.aload_n 0, 1) := by decide +kernel
theorem dX11_mirrors_6 : decode cX11_mirrors 6 = .ok (.getfield 9, 3) := by decide +kernel
theorem dX11_mirrors_9 : decode cX11_mirrors 9 = .ok (.sipush 144, 3) := by decide +kernel
theorem dX11_mirrors_12 : decode cX11_mirrors 12 = .ok (.iaload, 1) := by decide +kernel
theorem dX11_mirrors_13 : decode cX11_mirrors 13 = .ok (.if_icmp .ge 41, 3) := by decide +kernel
theorem dX11_mirrors_16 : decode cX11_mirrors 16 = .ok (.aload_n 0, 1) := by decide +kernel
theorem dX11_mirrors_17 : decode cX11_mirrors 17 = .ok (.iload_n 3, 1) := by decide +kernel
theorem dX11_mirrors_18 : decode cX11_mirrors 18 = .ok (.iload_n 1, 1) := by decide +kernel
theorem dX11_mirrors_19 : decode cX11_mirrors 19 = .ok (.invokevirtual 121, 3) := by decide +kernel
theorem dX11_mirrors_22 : decode cX11_mirrors 22 = .ok (.ifCond .eq 26, 3) := by decide +kernel
theorem dX11_mirrors_25 : decode cX11_mirrors 25 = .ok (.iload_n 2, 1) := by decide +kernel
theorem dX11_mirrors_26 : decode cX11_mirrors 26 = .ok (.ifCond .lt 20, 3) := by decide +kernel
theorem dX11_mirrors_29 : decode cX11_mirrors 29 = .ok (.aload_n 0, 1) := by decide +kernel
theorem dX11_mirrors_30 : decode cX11_mirrors 30 = .ok (.iload_n 3, 1) := by decide +kernel
theorem dX11_mirrors_31 : decode cX11_mirrors 31 = .ok (.bipush 10, 2) := by decide +kernel
theorem dX11_mirrors_33 : decode cX11_mirrors 33 = .ok (.invokevirtual 66, 3) := by decide +kernel
theorem dX11_mirrors_36 : decode cX11_mirrors 36 = .ok (.aload_n 0, 1) := by decide +kernel
theorem dX11_mirrors_37 : decode cX11_mirrors 37 = .ok (.iload_n 2, 1) := by decide +kernel
theorem dX11_mirrors_38 : decode cX11_mirrors 38 = .ok (.bipush 10, 2) := by decide +kernel
theorem dX11_mirrors_40 : decode cX11_mirrors 40 = .ok (.invokevirtual 66, 3) := by decide +kernel
theorem dX11_mirrors_43 : decode cX11_mirrors 43 = .ok (.if_icmp .ge 5, 3) := by decide +kernel
theorem dX11_mirrors_46 : decode cX11_mirrors 46 = .ok (.iload_n 3, 1) := by decide +kernel
theorem dX11_mirrors_47 : decode cX11_mirrors 47 = .ok (.istore_n 2, 1) := by decide +kernel
theorem dX11_mirrors_48 : decode cX11_mirrors 48 = .ok (.iinc 3 1, 3) := by decide +kernel
theorem dX11_mirrors_51 : decode cX11_mirrors 51 = .ok (.goto (-47), 3) := by decide +kernel
theorem dX11_mirrors_54 : decode cX11_mirrors 54 = .ok (.iload_n 2, 1) := by decide +kernel
theorem dX11_mirrors_55 : decode cX11_mirrors 55 = .ok (.ifCond .ge 4, 3) := by decide +kernel
theorem dX11_mirrors_58 : decode cX11_mirrors 58 = .ok (.return_, 1) := by decide +kernel
theorem dX11_mirrors_59 : decode cX11_mirrors 59 = .ok (.aload_n 0, 1) := by decide +kernel
theorem dX11_mirrors_60 : decode cX11_mirrors 60 = .ok (.iload_n 2, 1) := by decide +kernel
theorem dX11_mirrors_61 : decode cX11_mirrors 61 = .ok (.bipush 11, 2) := by decide +kernel
theorem dX11_mirrors_63 : decode cX11_mirrors 63 = .ok (.aload_n 0, 1) := by decide +kernel
theorem dX11_mirrors_64 : decode cX11_mirrors 64 = .ok (.iload_n 2, 1) := by decide +kernel
theorem dX11_mirrors_65 : decode cX11_mirrors 65 = .ok (.bipush 11, 2) := by decide +kernel
theorem dX11_mirrors_67 : decode cX11_mirrors 67 = .ok (.invokevirtual 66, 3) := by decide +kernel
theorem dX11_mirrors_70 : decode cX11_mirrors 70 = .ok (.aload_n 0, 1) := by decide +kernel
theorem dX11_mirrors_71 : decode cX11_mirrors 71 = .ok (.iload_n 2, 1) := by decide +kernel
theorem dX11_mirrors_72 : decode cX11_mirrors 72 = .ok (.iconst 3, 1) := by decide +kernel
theorem dX11_mirrors_73 : decode cX11_mirrors 73 = .ok (.invokevirtual 66, 3) := by decide +kernel
theorem dX11_mirrors_76 : decode cX11_mirrors 76 = .ok (.aload_n 0, 1) := by decide +kernel
theorem dX11_mirrors_77 : decode cX11_mirrors 77 = .ok (.iload_n 2, 1) := by decide +kernel
theorem dX11_mirrors_78 : decode cX11_mirrors 78 = .ok (.bipush 10, 2) := by decide +kernel
theorem dX11_mirrors_80 : decode cX11_mirrors 80 = .ok (.invokevirtual 66, 3) := by decide +kernel
theorem dX11_mirrors_83 : decode cX11_mirrors 83 = .ok (.bipush 8, 2) := by decide +kernel
theorem dX11_mirrors_85 : decode cX11_mirrors 85 = .ok (.irem, 1) := by decide +kernel
theorem dX11_mirrors_86 : decode cX11_mirrors 86 = .ok (.ishr, 1) := by decide +kernel
theorem dX11_mirrors_87 : decode cX11_mirrors 87 = .ok (.iconst 1, 1) := by decide +kernel
theorem dX11_mirrors_88 : decode cX11_mirrors 88 = .ok (.iand, 1) := by decide +kernel
theorem dX11_mirrors_89 : decode cX11_mirrors 89 = .ok (.iadd, 1) := by decide +kernel
theorem dX11_mirrors_90 : decode cX11_mirrors 90 = .ok (.invokevirtual 58, 3) := by decide +kernel
theorem dX11_mirrors_93 : decode cX11_mirrors 93 = .ok (.aload_n 0, 1) := by decide +kernel
theorem dX11_mirrors_94 : decode cX11_mirrors 94 = .ok (.iload_n 2, 1) := by decide +kernel
theorem dX11_mirrors_95 : decode cX11_mirrors 95 = .ok (.bipush 10, 2) := by decide +kernel
theorem dX11_mirrors_97 : decode cX11_mirrors 97 = .ok (.aload_n 0, 1) := by decide +kernel
theorem dX11_mirrors_98 : decode cX11_mirrors 98 = .ok (.iload_n 2, 1) := by decide +kernel
theorem dX11_mirrors_99 : decode cX11_mirrors 99 = .ok (.bipush 10, 2) := by decide +kernel
theorem dX11_mirrors_101 : decode cX11_mirrors 101 = .ok (.invokevirtual 66, 3) := by decide +kernel
theorem dX11_mirrors_104 : decode cX11_mirrors 104 = .ok (.iconst 1, 1) := by decide +kernel
theorem dX11_mirrors_105 : decode cX11_mirrors 105 = .ok (.iadd, 1) := by decide +kernel
theorem dX11_mirrors_106 : decode cX11_mirrors 106 = .ok (.invokevirtual 58, 3) := by decide +kernel
theorem dX11_mirrors_109 : decode cX11_mirrors 109 = .ok (.aload_n 0, 1) := by decide +kernel
theorem dX11_mirrors_110 : decode cX11_mirrors 110 = .ok (.getfield 9, 3) := by decide +kernel
theorem dX11_mirrors_113 : decode cX11_mirrors 113 = .ok (.sipush 703, 3) := by decide +kernel
theorem dX11_mirrors_116 : decode cX11_mirrors 116 = .ok (.dup2, 1) := by decide +kernel
theorem dX11_mirrors_117 : decode cX11_mirrors 117 = .ok (.iaload, 1) := by decide +kernel
theorem dX11_mirrors_118 : decode cX11_mirrors 118 = .ok (.iconst 1, 1) := by decide +kernel
theorem dX11_mirrors_119 : decode cX11_mirrors 119 = .ok (.iadd, 1) := by decide +kernel
theorem dX11_mirrors_120 : decode cX11_mirrors 120 = .ok (.iastore, 1) := by decide +kernel
theorem dX11_mirrors_121 : decode cX11_mirrors 121 = .ok (.return_, 1) := by decide +kernel
theorem dX11_serves_0 : decode cX11_serves 0 = .ok (.sipush 145, 3) := by decide +kernel
theorem dX11_serves_3 : decode cX11_serves 3 = .ok (.bipush 21, 2) := by decide +kernel
theorem dX11_serves_5 : decode cX11_serves 5 = .ok (.iload_n 1, 1) := by decide +kernel
theorem dX11_serves_6 : decode cX11_serves 6 = .ok (.imul, 1) := by decide +kernel
theorem dX11_serves_7 : decode cX11_serves 7 = .ok (.iadd, 1) := by decide +kernel
theorem dX11_serves_8 : decode cX11_serves 8 = .ok (.istore 5, 2) := by decide +kernel
theorem dX11_serves_10 : decode cX11_serves 10 = .ok (.aload_n 0, 1) := by decide +kernel
theorem dX11_serves_11 : decode cX11_serves 11 = .ok (.getfield 9, 3) := by decide +kernel
theorem dX11_serves_14 : decode cX11_serves 14 = .ok (.iload 5, 2) := by decide +kernel
theorem dX11_serves_16 : decode cX11_serves 16 = .ok (.bipush 6, 2) := by decide +kernel
theorem dX11_serves_18 : decode cX11_serves 18 = .ok (.iadd, 1) := by decide +kernel
theorem dX11_serves_19 : decode cX11_serves 19 = .ok (.dup2, 1) := by decide +kernel
theorem dX11_serves_20 : decode cX11_serves 20 = .ok (.iaload, 1) := by decide +kernel
theorem dX11_serves_21 : decode cX11_serves 21 = .ok (.iconst 1, 1) := by decide +kernel
theorem dX11_serves_22 : decode cX11_serves 22 = .ok (.iadd, 1) := by decide +kernel
theorem dX11_serves_23 : decode cX11_serves 23 = .ok (.iastore, 1) := by decide +kernel
theorem dX11_serves_24 : decode cX11_serves 24 = .ok (.aload_n 0, 1) := by decide +kernel
theorem dX11_serves_25 : decode cX11_serves 25 = .ok (.getfield 9, 3) := by decide +kernel
theorem dX11_serves_28 : decode cX11_serves 28 = .ok (.iload 5, 2) := by decide +kernel
theorem dX11_serves_30 : decode cX11_serves 30 = .ok (.iconst 5, 1) := by decide +kernel
theorem dX11_serves_31 : decode cX11_serves 31 = .ok (.iadd, 1) := by decide +kernel
theorem dX11_serves_32 : decode cX11_serves 32 = .ok (.dup2, 1) := by decide +kernel
theorem dX11_serves_33 : decode cX11_serves 33 = .ok (.iaload, 1) := by decide +kernel
theorem dX11_serves_34 : decode cX11_serves 34 = .ok (.aload_n 0, 1) := by decide +kernel
theorem dX11_serves_35 : decode cX11_serves 35 = .ok (.getfield 9, 3) := by decide +kernel
theorem dX11_serves_38 : decode cX11_serves 38 = .ok (.iload 5, 2) := by decide +kernel
theorem dX11_serves_40 : decode cX11_serves 40 = .ok (.iconst 4, 1) := by decide +kernel
theorem dX11_serves_41 : decode cX11_serves 41 = .ok (.iadd, 1) := by decide +kernel
theorem dX11_serves_42 : decode cX11_serves 42 = .ok (.iaload, 1) := by decide +kernel
theorem dX11_serves_43 : decode cX11_serves 43 = .ok (.iadd, 1) := by decide +kernel
theorem dX11_serves_44 : decode cX11_serves 44 = .ok (.iastore, 1) := by decide +kernel
theorem dX11_serves_45 : decode cX11_serves 45 = .ok (.aload_n 0, 1) := by decide +kernel
theorem dX11_serves_46 : decode cX11_serves 46 = .ok (.getfield 9, 3) := by decide +kernel
theorem dX11_serves_49 : decode cX11_serves 49 = .ok (.iload 5, 2) := by decide +kernel
theorem dX11_serves_51 : decode cX11_serves 51 = .ok (.iconst 5, 1) := by decide +kernel
theorem dX11_serves_52 : decode cX11_serves 52 = .ok (.iadd, 1) := by decide +kernel
theorem dX11_serves_53 : decode cX11_serves 53 = .ok (.aload_n 0, 1) := by decide +kernel
theorem dX11_serves_54 : decode cX11_serves 54 = .ok (.getfield 9, 3) := by decide +kernel
theorem dX11_serves_57 : decode cX11_serves 57 = .ok (.iload 5, 2) := by decide +kernel
theorem dX11_serves_59 : decode cX11_serves 59 = .ok (.iconst 5, 1) := by decide +kernel
theorem dX11_serves_60 : decode cX11_serves 60 = .ok (.iadd, 1) := by decide +kernel
theorem dX11_serves_61 : decode cX11_serves 61 = .ok (.iaload, 1) := by decide +kernel
theorem dX11_serves_62 : decode cX11_serves 62 = .ok (.sipush 1000, 3) := by decide +kernel
theorem dX11_serves_65 : decode cX11_serves 65 = .ok (.if_icmp .le 9, 3) := by decide +kernel
theorem dX11_serves_68 : decode cX11_serves 68 = .ok (.sipush 1000, 3) := by decide +kernel
theorem dX11_serves_71 : decode cX11_serves 71 = .ok (.goto 12, 3) := by decide +kernel
theorem dX11_serves_74 : decode cX11_serves 74 = .ok (.aload_n 0, 1) := by decide +kernel
theorem dX11_serves_75 : decode cX11_serves 75 = .ok (.getfield 9, 3) := by decide +kernel
theorem dX11_serves_78 : decode cX11_serves 78 = .ok (.iload 5, 2) := by decide +kernel
theorem dX11_serves_80 : decode cX11_serves 80 = .ok (.iconst 5, 1) := by decide +kernel
theorem dX11_serves_81 : decode cX11_serves 81 = .ok (.iadd, 1) := by decide +kernel
theorem dX11_serves_82 : decode cX11_serves 82 = .ok (.iaload, 1) := by decide +kernel
theorem dX11_serves_83 : decode cX11_serves 83 = .ok (.iastore, 1) := by decide +kernel
theorem dX11_serves_84 : decode cX11_serves 84 = .ok (.iconst 0, 1) := by decide +kernel
theorem dX11_serves_85 : decode cX11_serves 85 = .ok (.istore 6, 2) := by decide +kernel
theorem dX11_serves_87 : decode cX11_serves 87 = .ok (.iconst 0, 1) := by decide +kernel
theorem dX11_serves_88 : decode cX11_serves 88 = .ok (.istore 7, 2) := by decide +kernel
theorem dX11_serves_90 : decode cX11_serves 90 = .ok (.aload_n 0, 1) := by decide +kernel
theorem dX11_serves_91 : decode cX11_serves 91 = .ok (.aload_n 0, 1) := by decide +kernel
theorem dX11_serves_92 : decode cX11_serves 92 = .ok (.iload_n 1, 1) := by decide +kernel
theorem dX11_serves_93 : decode cX11_serves 93 = .ok (.invokevirtual 127, 3) := by decide +kernel
theorem dX11_serves_96 : decode cX11_serves 96 = .ok (.iload 6, 2) := by decide +kernel
theorem dX11_serves_98 : decode cX11_serves 98 = .ok (.iconst (-1), 1) := by decide +kernel
theorem dX11_serves_99 : decode cX11_serves 99 = .ok (.ixor, 1) := by decide +kernel
theorem dX11_serves_100 : decode cX11_serves 100 = .ok (.iand, 1) := by decide +kernel
theorem dX11_serves_101 : decode cX11_serves 101 = .ok (.iload_n 1, 1) := by decide +kernel
theorem dX11_serves_102 : decode cX11_serves 102 = .ok (.iload_n 3, 1) := by decide +kernel
theorem dX11_serves_103 : decode cX11_serves 103 = .ok (.iload 4, 2) := by decide +kernel
theorem dX11_serves_105 : decode cX11_serves 105 = .ok (.invokevirtual 147, 3) := by decide +kernel
theorem dX11_serves_108 : decode cX11_serves 108 = .ok (.istore 8, 2) := by decide +kernel
theorem dX11_serves_110 : decode cX11_serves 110 = .ok (.iload 6, 2) := by decide +kernel
theorem dX11_serves_112 : decode cX11_serves 112 = .ok (.iconst 1, 1) := by decide +kernel
theorem dX11_serves_113 : decode cX11_serves 113 = .ok (.iload 8, 2) := by decide +kernel
theorem dX11_serves_115 : decode cX11_serves 115 = .ok (.ishl, 1) := by decide +kernel
theorem dX11_serves_116 : decode cX11_serves 116 = .ok (.ior, 1) := by decide +kernel
theorem dX11_serves_117 : decode cX11_serves 117 = .ok (.istore 6, 2) := by decide +kernel
theorem dX11_serves_119 : decode cX11_serves 119 = .ok (.iinc 7 1, 3) := by decide +kernel
theorem dX11_serves_122 : decode cX11_serves 122 = .ok (.aload_n 0, 1) := by decide +kernel
theorem dX11_serves_123 : decode cX11_serves 123 = .ok (.iload 8, 2) := by decide +kernel
theorem dX11_serves_125 : decode cX11_serves 125 = .ok (.iload_n 1, 1) := by decide +kernel
theorem dX11_serves_126 : decode cX11_serves 126 = .ok (.iload 4, 2) := by decide +kernel
theorem dX11_serves_128 : decode cX11_serves 128 = .ok (.invokevirtual 150, 3) := by decide +kernel
theorem dX11_serves_131 : decode cX11_serves 131 = .ok (.ifCond .eq 20, 3) := by decide +kernel
theorem dX11_serves_134 : decode cX11_serves 134 = .ok (.aload_n 0, 1) := by decide +kernel
theorem dX11_serves_135 : decode cX11_serves 135 = .ok (.getfield 9, 3) := by decide +kernel
theorem dX11_serves_138 : decode cX11_serves 138 = .ok (.iload 5, 2) := by decide +kernel
theorem dX11_serves_140 : decode cX11_serves 140 = .ok (.bipush 7, 2) := by decide +kernel
theorem dX11_serves_142 : decode cX11_serves 142 = .ok (.iadd, 1) := by decide +kernel
theorem dX11_serves_143 : decode cX11_serves 143 = .ok (.dup2, 1) := by decide +kernel
theorem dX11_serves_144 : decode cX11_serves 144 = .ok (.iaload, 1) := by decide +kernel
theorem dX11_serves_145 : decode cX11_serves 145 = .ok (.iconst 1, 1) := by decide +kernel
theorem dX11_serves_146 : decode cX11_serves 146 = .ok (.iadd, 1) := by decide +kernel
theorem dX11_serves_147 : decode cX11_serves 147 = .ok (.iastore, 1) := by decide +kernel
theorem dX11_serves_148 : decode cX11_serves 148 = .ok (.iload 8, 2) := by decide +kernel
theorem dX11_serves_150 : decode cX11_serves 150 = .ok (.ireturn, 1) := by decide +kernel
theorem dX11_serves_151 : decode cX11_serves 151 = .ok (.aload_n 0, 1) := by decide +kernel
theorem dX11_serves_152 : decode cX11_serves 152 = .ok (.getfield 37, 3) := by decide +kernel
theorem dX11_serves_155 : decode cX11_serves 155 = .ok (.iconst 1, 1) := by decide +kernel
theorem dX11_serves_156 : decode cX11_serves 156 = .ok (.if_icmp .eq 55, 3) := by decide +kernel
theorem dX11_serves_159 : decode cX11_serves 159 = .ok (.iload 7, 2) := by decide +kernel
theorem dX11_serves_161 : decode cX11_serves 161 = .ok (.aload_n 0, 1) := by decide +kernel
theorem dX11_serves_162 : decode cX11_serves 162 = .ok (.getfield 9, 3) := by decide +kernel
theorem dX11_serves_165 : decode cX11_serves 165 = .ok (.sipush 231, 3) := by decide +kernel
theorem dX11_serves_168 : decode cX11_serves 168 = .ok (.bipush 58, 2) := by decide +kernel
theorem dX11_serves_170 : decode cX11_serves 170 = .ok (.iload_n 2, 1) := by decide +kernel
theorem dX11_serves_171 : decode cX11_serves 171 = .ok (.imul, 1) := by decide +kernel
theorem dX11_serves_172 : decode cX11_serves 172 = .ok (.iadd, 1) := by decide +kernel
theorem dX11_serves_173 : decode cX11_serves 173 = .ok (.bipush 56, 2) := by decide +kernel
theorem dX11_serves_175 : decode cX11_serves 175 = .ok (.iadd, 1) := by decide +kernel
theorem dX11_serves_176 : decode cX11_serves 176 = .ok (.iaload, 1) := by decide +kernel
theorem dX11_serves_177 : decode cX11_serves 177 = .ok (.if_icmp .ge 34, 3) := by decide +kernel
theorem dX11_serves_180 : decode cX11_serves 180 = .ok (.aload_n 0, 1) := by decide +kernel
theorem dX11_serves_181 : decode cX11_serves 181 = .ok (.getfield 9, 3) := by decide +kernel
theorem dX11_serves_184 : decode cX11_serves 184 = .ok (.iload 5, 2) := by decide +kernel
theorem dX11_serves_186 : decode cX11_serves 186 = .ok (.iconst 5, 1) := by decide +kernel
theorem dX11_serves_187 : decode cX11_serves 187 = .ok (.iadd, 1) := by decide +kernel
theorem dX11_serves_188 : decode cX11_serves 188 = .ok (.iaload, 1) := by decide +kernel
theorem dX11_serves_189 : decode cX11_serves 189 = .ok (.bipush 100, 2) := by decide +kernel
theorem dX11_serves_191 : decode cX11_serves 191 = .ok (.if_icmp .lt 20, 3) := by decide +kernel
theorem dX11_serves_194 : decode cX11_serves 194 = .ok (.aload_n 0, 1) := by decide +kernel
theorem dX11_serves_195 : decode cX11_serves 195 = .ok (.iload_n 1, 1) := by decide +kernel
theorem dX11_serves_196 : decode cX11_serves 196 = .ok (.invokevirtual 127, 3) := by decide +kernel
theorem dX11_serves_199 : decode cX11_serves 199 = .ok (.iload 6, 2) := by decide +kernel
theorem dX11_serves_201 : decode cX11_serves 201 = .ok (.iconst (-1), 1) := by decide +kernel
theorem dX11_serves_202 : decode cX11_serves 202 = .ok (.ixor, 1) := by decide +kernel
theorem dX11_serves_203 : decode cX11_serves 203 = .ok (.iand, 1) := by decide +kernel
theorem dX11_serves_204 : decode cX11_serves 204 = .ok (.ifCond .eq 7, 3) := by decide +kernel
theorem dX11_serves_207 : decode cX11_serves 207 = .ok (.iconst 1, 1) := by decide +kernel
theorem dX11_serves_208 : decode cX11_serves 208 = .ok (.goto 4, 3) := by decide +kernel
theorem dX11_serves_211 : decode cX11_serves 211 = .ok (.iconst 0, 1) := by decide +kernel
theorem dX11_serves_212 : decode cX11_serves 212 = .ok (.istore 9, 2) := by decide +kernel
theorem dX11_serves_214 : decode cX11_serves 214 = .ok (.iload 9, 2) := by decide +kernel
theorem dX11_serves_216 : decode cX11_serves 216 = .ok (.ifCond .ne 6, 3) := by decide +kernel
theorem dX11_serves_219 : decode cX11_serves 219 = .ok (.bipush (-6), 2) := by decide +kernel
theorem dX11_serves_221 : decode cX11_serves 221 = .ok (.ireturn, 1) := by decide +kernel
theorem dX11_serves_222 : decode cX11_serves 222 = .ok (.aload_n 0, 1) := by decide +kernel
theorem dX11_serves_223 : decode cX11_serves 223 = .ok (.getfield 9, 3) := by decide +kernel
theorem dX11_serves_226 : decode cX11_serves 226 = .ok (.iload 5, 2) := by decide +kernel
theorem dX11_serves_228 : decode cX11_serves 228 = .ok (.iconst 5, 1) := by decide +kernel
theorem dX11_serves_229 : decode cX11_serves 229 = .ok (.iadd, 1) := by decide +kernel
theorem dX11_serves_230 : decode cX11_serves 230 = .ok (.dup2, 1) := by decide +kernel
theorem dX11_serves_231 : decode cX11_serves 231 = .ok (.iaload, 1) := by decide +kernel
theorem dX11_serves_232 : decode cX11_serves 232 = .ok (.bipush 100, 2) := by decide +kernel
theorem dX11_serves_234 : decode cX11_serves 234 = .ok (.isub, 1) := by decide +kernel
theorem dX11_serves_235 : decode cX11_serves 235 = .ok (.iastore, 1) := by decide +kernel
theorem dX11_serves_236 : decode cX11_serves 236 = .ok (.goto (-146), 3) := by decide +kernel
theorem dX11_answers_0 : decode cX11_answers 0 = .ok (.aload_n 0, 1) := by decide +kernel
theorem dX11_answers_1 : decode cX11_answers 1 = .ok (.getfield 9, 3) := by decide +kernel
theorem dX11_answers_4 : decode cX11_answers 4 = .ok (.sipush 706, 3) := by decide +kernel
theorem dX11_answers_7 : decode cX11_answers 7 = .ok (.iconst 0, 1) := by decide +kernel
theorem dX11_answers_8 : decode cX11_answers 8 = .ok (.iastore, 1) := by decide +kernel
theorem dX11_answers_9 : decode cX11_answers 9 = .ok (.aload_n 0, 1) := by decide +kernel
theorem dX11_answers_10 : decode cX11_answers 10 = .ok (.getfield 9, 3) := by decide +kernel
theorem dX11_answers_13 : decode cX11_answers 13 = .ok (.sipush 697, 3) := by decide +kernel
theorem dX11_answers_16 : decode cX11_answers 16 = .ok (.dup2, 1) := by decide +kernel
theorem dX11_answers_17 : decode cX11_answers 17 = .ok (.iaload, 1) := by decide +kernel
theorem dX11_answers_18 : decode cX11_answers 18 = .ok (.iconst 1, 1) := by decide +kernel
theorem dX11_answers_19 : decode cX11_answers 19 = .ok (.iadd, 1) := by decide +kernel
theorem dX11_answers_20 : decode cX11_answers 20 = .ok (.iastore, 1) := by decide +kernel
theorem dX11_answers_21 : decode cX11_answers 21 = .ok (.aload_n 0, 1) := by decide +kernel
theorem dX11_answers_22 : decode cX11_answers 22 = .ok (.iload_n 1, 1) := by decide +kernel
theorem dX11_answers_23 : decode cX11_answers 23 = .ok (.invokevirtual 117, 3) := by decide +kernel
theorem dX11_answers_26 : decode cX11_answers 26 = .ok (.istore_n 3, 1) := by decide +kernel
theorem dX11_answers_27 : decode cX11_answers 27 = .ok (.iload_n 3, 1) := by decide +kernel
theorem dX11_answers_28 : decode cX11_answers 28 = .ok (.ifCond .ge 18, 3) := by decide +kernel
theorem dX11_answers_31 : decode cX11_answers 31 = .ok (.aload_n 0, 1) := by decide +kernel
theorem dX11_answers_32 : decode cX11_answers 32 = .ok (.getfield 9, 3) := by decide +kernel
theorem dX11_answers_35 : decode cX11_answers 35 = .ok (.sipush 699, 3) := by decide +kernel
theorem dX11_answers_38 : decode cX11_answers 38 = .ok (.dup2, 1) := by decide +kernel
theorem dX11_answers_39 : decode cX11_answers 39 = .ok (.iaload, 1) := by decide +kernel
theorem dX11_answers_40 : decode cX11_answers 40 = .ok (.iconst 1, 1) := by decide +kernel
theorem dX11_answers_41 : decode cX11_answers 41 = .ok (.iadd, 1) := by decide +kernel
theorem dX11_answers_42 : decode cX11_answers 42 = .ok (.iastore, 1) := by decide +kernel
theorem dX11_answers_43 : decode cX11_answers 43 = .ok (.bipush (-4), 2) := by decide +kernel
theorem dX11_answers_45 : decode cX11_answers 45 = .ok (.ireturn, 1) := by decide +kernel
theorem dX11_answers_46 : decode cX11_answers 46 = .ok (.aload_n 0, 1) := by decide +kernel
theorem dX11_answers_47 : decode cX11_answers 47 = .ok (.iload_n 3, 1) := by decide +kernel
theorem dX11_answers_48 : decode cX11_answers 48 = .ok (.invokevirtual 153, 3) := by decide +kernel
theorem dX11_answers_51 : decode cX11_answers 51 = .ok (.istore 4, 2) := by decide +kernel
theorem dX11_answers_53 : decode cX11_answers 53 = .ok (.iload 4, 2) := by decide +kernel
theorem dX11_answers_55 : decode cX11_answers 55 = .ok (.ifCond .ge 8, 3) := by decide +kernel
theorem dX11_answers_58 : decode cX11_answers 58 = .ok (.bipush (-5), 2) := by decide +kernel
theorem dX11_answers_60 : decode cX11_answers 60 = .ok (.goto 31, 3) := by decide +kernel
theorem dX11_answers_63 : decode cX11_answers 63 = .ok (.aload_n 0, 1) := by decide +kernel
theorem dX11_answers_64 : decode cX11_answers 64 = .ok (.aload_n 0, 1) := by decide +kernel
theorem dX11_answers_65 : decode cX11_answers 65 = .ok (.getfield 9, 3) := by decide +kernel
theorem dX11_answers_68 : decode cX11_answers 68 = .ok (.sipush 231, 3) := by decide +kernel
theorem dX11_answers_71 : decode cX11_answers 71 = .ok (.bipush 58, 2) := by decide +kernel
theorem dX11_answers_73 : decode cX11_answers 73 = .ok (.iload_n 3, 1) := by decide +kernel
theorem dX11_answers_74 : decode cX11_answers 74 = .ok (.imul, 1) := by decide +kernel
theorem dX11_answers_75 : decode cX11_answers 75 = .ok (.iadd, 1) := by decide +kernel
theorem dX11_answers_76 : decode cX11_answers 76 = .ok (.bipush 44, 2) := by decide +kernel
theorem dX11_answers_78 : decode cX11_answers 78 = .ok (.iadd, 1) := by decide +kernel
theorem dX11_answers_79 : decode cX11_answers 79 = .ok (.iconst 4, 1) := by decide +kernel
theorem dX11_answers_80 : decode cX11_answers 80 = .ok (.iload 4, 2) := by decide +kernel
theorem dX11_answers_82 : decode cX11_answers 82 = .ok (.imul, 1) := by decide +kernel
theorem dX11_answers_83 : decode cX11_answers 83 = .ok (.iadd, 1) := by decide +kernel
theorem dX11_answers_84 : decode cX11_answers 84 = .ok (.iaload, 1) := by decide +kernel
theorem dX11_answers_85 : decode cX11_answers 85 = .ok (.iload_n 3, 1) := by decide +kernel
theorem dX11_answers_86 : decode cX11_answers 86 = .ok (.iload_n 1, 1) := by decide +kernel
theorem dX11_answers_87 : decode cX11_answers 87 = .ok (.iload_n 2, 1) := by decide +kernel
theorem dX11_answers_88 : decode cX11_answers 88 = .ok (.invokevirtual 156, 3) := by decide +kernel
theorem dX11_answers_91 : decode cX11_answers 91 = .ok (.istore 5, 2) := by decide +kernel
theorem dX11_answers_93 : decode cX11_answers 93 = .ok (.aload_n 0, 1) := by decide +kernel
theorem dX11_answers_94 : decode cX11_answers 94 = .ok (.getfield 9, 3) := by decide +kernel
theorem dX11_answers_97 : decode cX11_answers 97 = .ok (.sipush 695, 3) := by decide +kernel
theorem dX11_answers_100 : decode cX11_answers 100 = .ok (.iload 5, 2) := by decide +kernel
theorem dX11_answers_102 : decode cX11_answers 102 = .ok (.ifCond .lt 7, 3) := by decide +kernel
theorem dX11_answers_105 : decode cX11_answers 105 = .ok (.iconst 3, 1) := by decide +kernel
theorem dX11_answers_106 : decode cX11_answers 106 = .ok (.goto 16, 3) := by decide +kernel
theorem dX11_answers_109 : decode cX11_answers 109 = .ok (.iload 5, 2) := by decide +kernel
theorem dX11_answers_111 : decode cX11_answers 111 = .ok (.bipush (-5), 2) := by decide +kernel
theorem dX11_answers_113 : decode cX11_answers 113 = .ok (.if_icmp .ne 7, 3) := by decide +kernel
theorem dX11_answers_116 : decode cX11_answers 116 = .ok (.iconst 5, 1) := by decide +kernel
theorem dX11_answers_117 : decode cX11_answers 117 = .ok (.goto 5, 3) := by decide +kernel
theorem dX11_answers_120 : decode cX11_answers 120 = .ok (.bipush 6, 2) := by decide +kernel
theorem dX11_answers_122 : decode cX11_answers 122 = .ok (.iadd, 1) := by decide +kernel
theorem dX11_answers_123 : decode cX11_answers 123 = .ok (.dup2, 1) := by decide +kernel
theorem dX11_answers_124 : decode cX11_answers 124 = .ok (.iaload, 1) := by decide +kernel
theorem dX11_answers_125 : decode cX11_answers 125 = .ok (.iconst 1, 1) := by decide +kernel
theorem dX11_answers_126 : decode cX11_answers 126 = .ok (.iadd, 1) := by decide +kernel
theorem dX11_answers_127 : decode cX11_answers 127 = .ok (.iastore, 1) := by decide +kernel
theorem dX11_answers_128 : decode cX11_answers 128 = .ok (.aload_n 0, 1) := by decide +kernel
theorem dX11_answers_129 : decode cX11_answers 129 = .ok (.getfield 9, 3) := by decide +kernel
theorem dX11_answers_132 : decode cX11_answers 132 = .ok (.sipush 231, 3) := by decide +kernel
theorem dX11_answers_135 : decode cX11_answers 135 = .ok (.bipush 58, 2) := by decide +kernel
theorem dX11_answers_137 : decode cX11_answers 137 = .ok (.iload_n 3, 1) := by decide +kernel
theorem dX11_answers_138 : decode cX11_answers 138 = .ok (.imul, 1) := by decide +kernel
theorem dX11_answers_139 : decode cX11_answers 139 = .ok (.iadd, 1) := by decide +kernel
theorem dX11_answers_140 : decode cX11_answers 140 = .ok (.bipush 57, 2) := by decide +kernel
theorem dX11_answers_142 : decode cX11_answers 142 = .ok (.iadd, 1) := by decide +kernel
theorem dX11_answers_143 : decode cX11_answers 143 = .ok (.iaload, 1) := by decide +kernel
theorem dX11_answers_144 : decode cX11_answers 144 = .ok (.istore 6, 2) := by decide +kernel
theorem dX11_answers_146 : decode cX11_answers 146 = .ok (.iload 6, 2) := by decide +kernel
theorem dX11_answers_148 : decode cX11_answers 148 = .ok (.ifCond .lt 16, 3) := by decide +kernel
theorem dX11_answers_151 : decode cX11_answers 151 = .ok (.aload_n 0, 1) := by decide +kernel
theorem dX11_answers_152 : decode cX11_answers 152 = .ok (.getfield 37, 3) := by decide +kernel
theorem dX11_answers_155 : decode cX11_answers 155 = .ok (.ifCond .eq 9, 3) := by decide +kernel
theorem dX11_answers_158 : decode cX11_answers 158 = .ok (.aload_n 0, 1) := by decide +kernel
theorem dX11_answers_159 : decode cX11_answers 159 = .ok (.iload 6, 2) := by decide +kernel
theorem dX11_answers_161 : decode cX11_answers 161 = .ok (.invokevirtual 159, 3) := by decide +kernel
theorem dX11_answers_164 : decode cX11_answers 164 = .ok (.iload 5, 2) := by decide +kernel
theorem dX11_answers_166 : decode cX11_answers 166 = .ok (.ireturn, 1) := by decide +kernel
theorem dX11_refuses_0 : decode cX11_refuses 0 = .ok (.iload_n 1, 1) := by decide +kernel
theorem dX11_refuses_1 : decode cX11_refuses 1 = .ok (.iconst 0, 1) := by decide +kernel
theorem dX11_refuses_2 : decode cX11_refuses 2 = .ok (.bipush 9, 2) := by decide +kernel
theorem dX11_refuses_4 : decode cX11_refuses 4 = .ok (.invokestatic 44, 3) := by decide +kernel
theorem dX11_refuses_7 : decode cX11_refuses 7 = .ok (.ifCond .eq 12, 3) := by decide +kernel
theorem dX11_refuses_10 : decode cX11_refuses 10 = .ok (.iload_n 2, 1) := by decide +kernel
theorem dX11_refuses_11 : decode cX11_refuses 11 = .ok (.iconst 0, 1) := by decide +kernel
theorem dX11_refuses_12 : decode cX11_refuses 12 = .ok (.iconst 2, 1) := by decide +kernel
theorem dX11_refuses_13 : decode cX11_refuses 13 = .ok (.invokestatic 44, 3) := by decide +kernel
theorem dX11_refuses_16 : decode cX11_refuses 16 = .ok (.ifCond .ne 8, 3) := by decide +kernel
theorem dX11_refuses_19 : decode cX11_refuses 19 = .ok (.bipush (-2), 2) := by decide +kernel
theorem dX11_refuses_21 : decode cX11_refuses 21 = .ok (.goto 16, 3) := by decide +kernel
theorem dX11_refuses_24 : decode cX11_refuses 24 = .ok (.aload_n 0, 1) := by decide +kernel
theorem dX11_refuses_25 : decode cX11_refuses 25 = .ok (.invokevirtual 113, 3) := by decide +kernel
theorem dX11_refuses_28 : decode cX11_refuses 28 = .ok (.ifCond .ne 8, 3) := by decide +kernel
theorem dX11_refuses_31 : decode cX11_refuses 31 = .ok (.bipush (-7), 2) := by decide +kernel
theorem dX11_refuses_33 : decode cX11_refuses 33 = .ok (.goto 4, 3) := by decide +kernel
theorem dX11_refuses_36 : decode cX11_refuses 36 = .ok (.iconst 0, 1) := by decide +kernel
theorem dX11_refuses_37 : decode cX11_refuses 37 = .ok (.ireturn, 1) := by decide +kernel
theorem dX11_request_0 : decode cX11_request 0 = .ok (.aload_n 0, 1) := by decide +kernel
theorem dX11_request_1 : decode cX11_request 1 = .ok (.iload_n 1, 1) := by decide +kernel
theorem dX11_request_2 : decode cX11_request 2 = .ok (.iload_n 2, 1) := by decide +kernel
theorem dX11_request_3 : decode cX11_request 3 = .ok (.invokevirtual 162, 3) := by decide +kernel
theorem dX11_request_6 : decode cX11_request 6 = .ok (.istore_n 3, 1) := by decide +kernel
theorem dX11_request_7 : decode cX11_request 7 = .ok (.iload_n 3, 1) := by decide +kernel
theorem dX11_request_8 : decode cX11_request 8 = .ok (.ifCond .ge 10, 3) := by decide +kernel
theorem dX11_request_11 : decode cX11_request 11 = .ok (.aload_n 0, 1) := by decide +kernel
theorem dX11_request_12 : decode cX11_request 12 = .ok (.iconst 0, 1) := by decide +kernel
theorem dX11_request_13 : decode cX11_request 13 = .ok (.putfield 74, 3) := by decide +kernel
theorem dX11_request_16 : decode cX11_request 16 = .ok (.iload_n 3, 1) := by decide +kernel
theorem dX11_request_17 : decode cX11_request 17 = .ok (.ireturn, 1) := by decide +kernel
theorem dX11_request_18 : decode cX11_request 18 = .ok (.aload_n 0, 1) := by decide +kernel
theorem dX11_request_19 : decode cX11_request 19 = .ok (.iload_n 1, 1) := by decide +kernel
theorem dX11_request_20 : decode cX11_request 20 = .ok (.iload_n 2, 1) := by decide +kernel
theorem dX11_request_21 : decode cX11_request 21 = .ok (.invokevirtual 165, 3) := by decide +kernel
theorem dX11_request_24 : decode cX11_request 24 = .ok (.istore 4, 2) := by decide +kernel
theorem dX11_request_26 : decode cX11_request 26 = .ok (.aload_n 0, 1) := by decide +kernel
theorem dX11_request_27 : decode cX11_request 27 = .ok (.getfield 48, 3) := by decide +kernel
theorem dX11_request_30 : decode cX11_request 30 = .ok (.ifCond .eq 16, 3) := by decide +kernel
theorem dX11_request_33 : decode cX11_request 33 = .ok (.aload_n 0, 1) := by decide +kernel
theorem dX11_request_34 : decode cX11_request 34 = .ok (.getfield 52, 3) := by decide +kernel
theorem dX11_request_37 : decode cX11_request 37 = .ok (.bipush 60, 2) := by decide +kernel
theorem dX11_request_39 : decode cX11_request 39 = .ok (.if_icmp .ne 7, 3) := by decide +kernel
theorem dX11_request_42 : decode cX11_request 42 = .ok (.aload_n 0, 1) := by decide +kernel
theorem dX11_request_43 : decode cX11_request 43 = .ok (.invokevirtual 55, 3) := by decide +kernel
theorem dX11_request_46 : decode cX11_request 46 = .ok (.aload_n 0, 1) := by decide +kernel
theorem dX11_request_47 : decode cX11_request 47 = .ok (.getfield 48, 3) := by decide +kernel
theorem dX11_request_50 : decode cX11_request 50 = .ok (.ifCond .eq 103, 3) := by decide +kernel
theorem dX11_request_53 : decode cX11_request 53 = .ok (.iconst 4, 1) := by decide +kernel
theorem dX11_request_54 : decode cX11_request 54 = .ok (.aload_n 0, 1) := by decide +kernel
theorem dX11_request_55 : decode cX11_request 55 = .ok (.getfield 52, 3) := by decide +kernel
theorem dX11_request_58 : decode cX11_request 58 = .ok (.imul, 1) := by decide +kernel
theorem dX11_request_59 : decode cX11_request 59 = .ok (.istore 5, 2) := by decide +kernel
theorem dX11_request_61 : decode cX11_request 61 = .ok (.aload_n 0, 1) := by decide +kernel
theorem dX11_request_62 : decode cX11_request 62 = .ok (.getfield 25, 3) := by decide +kernel
theorem dX11_request_65 : decode cX11_request 65 = .ok (.iload 5, 2) := by decide +kernel
theorem dX11_request_67 : decode cX11_request 67 = .ok (.aload_n 0, 1) := by decide +kernel
theorem dX11_request_68 : decode cX11_request 68 = .ok (.getfield 74, 3) := by decide +kernel
theorem dX11_request_71 : decode cX11_request 71 = .ok (.iastore, 1) := by decide +kernel
theorem dX11_request_72 : decode cX11_request 72 = .ok (.aload_n 0, 1) := by decide +kernel
theorem dX11_request_73 : decode cX11_request 73 = .ok (.getfield 25, 3) := by decide +kernel
theorem dX11_request_76 : decode cX11_request 76 = .ok (.iload 5, 2) := by decide +kernel
theorem dX11_request_78 : decode cX11_request 78 = .ok (.iconst 1, 1) := by decide +kernel
theorem dX11_request_79 : decode cX11_request 79 = .ok (.iadd, 1) := by decide +kernel
theorem dX11_request_80 : decode cX11_request 80 = .ok (.iload_n 1, 1) := by decide +kernel
theorem dX11_request_81 : decode cX11_request 81 = .ok (.iastore, 1) := by decide +kernel
theorem dX11_request_82 : decode cX11_request 82 = .ok (.aload_n 0, 1) := by decide +kernel
theorem dX11_request_83 : decode cX11_request 83 = .ok (.getfield 25, 3) := by decide +kernel
theorem dX11_request_86 : decode cX11_request 86 = .ok (.iload 5, 2) := by decide +kernel
theorem dX11_request_88 : decode cX11_request 88 = .ok (.iconst 2, 1) := by decide +kernel
theorem dX11_request_89 : decode cX11_request 89 = .ok (.iadd, 1) := by decide +kernel
theorem dX11_request_90 : decode cX11_request 90 = .ok (.iload_n 2, 1) := by decide +kernel
theorem dX11_request_91 : decode cX11_request 91 = .ok (.iastore, 1) := by decide +kernel
theorem dX11_request_92 : decode cX11_request 92 = .ok (.aload_n 0, 1) := by decide +kernel
theorem dX11_request_93 : decode cX11_request 93 = .ok (.getfield 25, 3) := by decide +kernel
theorem dX11_request_96 : decode cX11_request 96 = .ok (.iload 5, 2) := by decide +kernel
theorem dX11_request_98 : decode cX11_request 98 = .ok (.iconst 3, 1) := by decide +kernel
theorem dX11_request_99 : decode cX11_request 99 = .ok (.iadd, 1) := by decide +kernel
theorem dX11_request_100 : decode cX11_request 100 = .ok (.iload 4, 2) := by decide +kernel
theorem dX11_request_102 : decode cX11_request 102 = .ok (.iastore, 1) := by decide +kernel
theorem dX11_request_103 : decode cX11_request 103 = .ok (.iconst 0, 1) := by decide +kernel
theorem dX11_request_104 : decode cX11_request 104 = .ok (.istore 6, 2) := by decide +kernel
theorem dX11_request_106 : decode cX11_request 106 = .ok (.iload 6, 2) := by decide +kernel
theorem dX11_request_108 : decode cX11_request 108 = .ok (.aload_n 0, 1) := by decide +kernel
theorem dX11_request_109 : decode cX11_request 109 = .ok (.getfield 74, 3) := by decide +kernel
theorem dX11_request_112 : decode cX11_request 112 = .ok (.if_icmp .ge 31, 3) := by decide +kernel
theorem dX11_request_115 : decode cX11_request 115 = .ok (.aload_n 0, 1) := by decide +kernel
theorem dX11_request_116 : decode cX11_request 116 = .ok (.getfield 28, 3) := by decide +kernel
theorem dX11_request_119 : decode cX11_request 119 = .ok (.bipush 40, 2) := by decide +kernel
theorem dX11_request_121 : decode cX11_request 121 = .ok (.aload_n 0, 1) := by decide +kernel
theorem dX11_request_122 : decode cX11_request 122 = .ok (.getfield 52, 3) := by decide +kernel
theorem dX11_request_125 : decode cX11_request 125 = .ok (.imul, 1) := by decide +kernel
theorem dX11_request_126 : decode cX11_request 126 = .ok (.iload 6, 2) := by decide +kernel
theorem dX11_request_128 : decode cX11_request 128 = .ok (.iadd, 1) := by decide +kernel
theorem dX11_request_129 : decode cX11_request 129 = .ok (.aload_n 0, 1) := by decide +kernel
theorem dX11_request_130 : decode cX11_request 130 = .ok (.getfield 22, 3) := by decide +kernel
theorem dX11_request_133 : decode cX11_request 133 = .ok (.iload 6, 2) := by decide +kernel
theorem dX11_request_135 : decode cX11_request 135 = .ok (.iaload, 1) := by decide +kernel
theorem dX11_request_136 : decode cX11_request 136 = .ok (.iastore, 1) := by decide +kernel
theorem dX11_request_137 : decode cX11_request 137 = .ok (.iinc 6 1, 3) := by decide +kernel
theorem dX11_request_140 : decode cX11_request 140 = .ok (.goto (-34), 3) := by decide +kernel
theorem dX11_request_143 : decode cX11_request 143 = .ok (.aload_n 0, 1) := by decide +kernel
theorem dX11_request_144 : decode cX11_request 144 = .ok (.dup, 1) := by decide +kernel
theorem dX11_request_145 : decode cX11_request 145 = .ok (.getfield 52, 3) := by decide +kernel
theorem dX11_request_148 : decode cX11_request 148 = .ok (.iconst 1, 1) := by decide +kernel
theorem dX11_request_149 : decode cX11_request 149 = .ok (.iadd, 1) := by decide +kernel
theorem dX11_request_150 : decode cX11_request 150 = .ok (.putfield 52, 3) := by decide +kernel
theorem dX11_request_153 : decode cX11_request 153 = .ok (.aload_n 0, 1) := by decide +kernel
theorem dX11_request_154 : decode cX11_request 154 = .ok (.iconst 0, 1) := by decide +kernel
theorem dX11_request_155 : decode cX11_request 155 = .ok (.putfield 74, 3) := by decide +kernel
theorem dX11_request_158 : decode cX11_request 158 = .ok (.iload 4, 2) := by decide +kernel
theorem dX11_request_160 : decode cX11_request 160 = .ok (.ireturn, 1) := by decide +kernel
theorem dX11_foresee_0 : decode cX11_foresee 0 = .ok (.aload_n 0, 1) := by decide +kernel
theorem dX11_foresee_1 : decode cX11_foresee 1 = .ok (.iload_n 1, 1) := by decide +kernel
theorem dX11_foresee_2 : decode cX11_foresee 2 = .ok (.iload_n 2, 1) := by decide +kernel
theorem dX11_foresee_3 : decode cX11_foresee 3 = .ok (.invokevirtual 162, 3) := by decide +kernel
theorem dX11_foresee_6 : decode cX11_foresee 6 = .ok (.istore_n 3, 1) := by decide +kernel
theorem dX11_foresee_7 : decode cX11_foresee 7 = .ok (.iload_n 3, 1) := by decide +kernel
theorem dX11_foresee_8 : decode cX11_foresee 8 = .ok (.ifCond .ge 5, 3) := by decide +kernel
theorem dX11_foresee_11 : decode cX11_foresee 11 = .ok (.iload_n 3, 1) := by decide +kernel
theorem dX11_foresee_12 : decode cX11_foresee 12 = .ok (.ireturn, 1) := by decide +kernel
theorem dX11_foresee_13 : decode cX11_foresee 13 = .ok (.aload_n 0, 1) := by decide +kernel
theorem dX11_foresee_14 : decode cX11_foresee 14 = .ok (.getfield 9, 3) := by decide +kernel
theorem dX11_foresee_17 : decode cX11_foresee 17 = .ok (.aload_n 0, 1) := by decide +kernel
theorem dX11_foresee_18 : decode cX11_foresee 18 = .ok (.getfield 19, 3) := by decide +kernel
theorem dX11_foresee_21 : decode cX11_foresee 21 = .ok (.invokestatic 168, 3) := by decide +kernel
theorem dX11_foresee_24 : decode cX11_foresee 24 = .ok (.aload_n 0, 1) := by decide +kernel
theorem dX11_foresee_25 : decode cX11_foresee 25 = .ok (.iload_n 1, 1) := by decide +kernel
theorem dX11_foresee_26 : decode cX11_foresee 26 = .ok (.iload_n 2, 1) := by decide +kernel
theorem dX11_foresee_27 : decode cX11_foresee 27 = .ok (.invokevirtual 165, 3) := by decide +kernel
theorem dX11_foresee_30 : decode cX11_foresee 30 = .ok (.istore 4, 2) := by decide +kernel
theorem dX11_foresee_32 : decode cX11_foresee 32 = .ok (.aload_n 0, 1) := by decide +kernel
theorem dX11_foresee_33 : decode cX11_foresee 33 = .ok (.getfield 19, 3) := by decide +kernel
theorem dX11_foresee_36 : decode cX11_foresee 36 = .ok (.aload_n 0, 1) := by decide +kernel
theorem dX11_foresee_37 : decode cX11_foresee 37 = .ok (.getfield 9, 3) := by decide +kernel
theorem dX11_foresee_40 : decode cX11_foresee 40 = .ok (.invokestatic 168, 3) := by decide +kernel
theorem dX11_foresee_43 : decode cX11_foresee 43 = .ok (.iload 4, 2) := by decide +kernel
theorem dX11_foresee_45 : decode cX11_foresee 45 = .ok (.ireturn, 1) := by decide +kernel
theorem dX11_ticks_0 : decode cX11_ticks 0 = .ok (.aload_n 0, 1) := by decide +kernel
theorem dX11_ticks_1 : decode cX11_ticks 1 = .ok (.getfield 9, 3) := by decide +kernel
theorem dX11_ticks_4 : decode cX11_ticks 4 = .ok (.sipush 705, 3) := by decide +kernel
theorem dX11_ticks_7 : decode cX11_ticks 7 = .ok (.dup2, 1) := by decide +kernel
theorem dX11_ticks_8 : decode cX11_ticks 8 = .ok (.iaload, 1) := by decide +kernel
theorem dX11_ticks_9 : decode cX11_ticks 9 = .ok (.iconst 1, 1) := by decide +kernel
theorem dX11_ticks_10 : decode cX11_ticks 10 = .ok (.iadd, 1) := by decide +kernel
theorem dX11_ticks_11 : decode cX11_ticks 11 = .ok (.iastore, 1) := by decide +kernel
theorem dX11_ticks_12 : decode cX11_ticks 12 = .ok (.iconst 0, 1) := by decide +kernel
theorem dX11_ticks_13 : decode cX11_ticks 13 = .ok (.istore_n 1, 1) := by decide +kernel
theorem dX11_ticks_14 : decode cX11_ticks 14 = .ok (.iload_n 1, 1) := by decide +kernel
theorem dX11_ticks_15 : decode cX11_ticks 15 = .ok (.aload_n 0, 1) := by decide +kernel
theorem dX11_ticks_16 : decode cX11_ticks 16 = .ok (.getfield 9, 3) := by decide +kernel
theorem dX11_ticks_19 : decode cX11_ticks 19 = .ok (.sipush 144, 3) := by decide +kernel
theorem dX11_ticks_22 : decode cX11_ticks 22 = .ok (.iaload, 1) := by decide +kernel
theorem dX11_ticks_23 : decode cX11_ticks 23 = .ok (.if_icmp .ge 39, 3) := by decide +kernel
theorem dX11_ticks_26 : decode cX11_ticks 26 = .ok (.aload_n 0, 1) := by decide +kernel
theorem dX11_ticks_27 : decode cX11_ticks 27 = .ok (.iload_n 1, 1) := by decide +kernel
theorem dX11_ticks_28 : decode cX11_ticks 28 = .ok (.bipush 9, 2) := by decide +kernel
theorem dX11_ticks_30 : decode cX11_ticks 30 = .ok (.aload_n 0, 1) := by decide +kernel
theorem dX11_ticks_31 : decode cX11_ticks 31 = .ok (.iload_n 1, 1) := by decide +kernel
theorem dX11_ticks_32 : decode cX11_ticks 32 = .ok (.bipush 9, 2) := by decide +kernel
theorem dX11_ticks_34 : decode cX11_ticks 34 = .ok (.invokevirtual 66, 3) := by decide +kernel
theorem dX11_ticks_37 : decode cX11_ticks 37 = .ok (.ifCond .le 15, 3) := by decide +kernel
theorem dX11_ticks_40 : decode cX11_ticks 40 = .ok (.aload_n 0, 1) := by decide +kernel
theorem dX11_ticks_41 : decode cX11_ticks 41 = .ok (.iload_n 1, 1) := by decide +kernel
theorem dX11_ticks_42 : decode cX11_ticks 42 = .ok (.bipush 9, 2) := by decide +kernel
theorem dX11_ticks_44 : decode cX11_ticks 44 = .ok (.invokevirtual 66, 3) := by decide +kernel
theorem dX11_ticks_47 : decode cX11_ticks 47 = .ok (.iconst 1, 1) := by decide +kernel
theorem dX11_ticks_48 : decode cX11_ticks 48 = .ok (.isub, 1) := by decide +kernel
theorem dX11_ticks_49 : decode cX11_ticks 49 = .ok (.goto 4, 3) := by decide +kernel
theorem dX11_ticks_52 : decode cX11_ticks 52 = .ok (.iconst 0, 1) := by decide +kernel
theorem dX11_ticks_53 : decode cX11_ticks 53 = .ok (.invokevirtual 58, 3) := by decide +kernel
theorem dX11_ticks_56 : decode cX11_ticks 56 = .ok (.iinc 1 1, 3) := by decide +kernel
theorem dX11_ticks_59 : decode cX11_ticks 59 = .ok (.goto (-45), 3) := by decide +kernel
theorem dX11_ticks_62 : decode cX11_ticks 62 = .ok (.return_, 1) := by decide +kernel
theorem dX11_tick_0 : decode cX11_tick 0 = .ok (.iload_n 1, 1) := by decide +kernel
theorem dX11_tick_1 : decode cX11_tick 1 = .ok (.iconst 1, 1) := by decide +kernel
theorem dX11_tick_2 : decode cX11_tick 2 = .ok (.bipush 50, 2) := by decide +kernel
theorem dX11_tick_4 : decode cX11_tick 4 = .ok (.invokestatic 44, 3) := by decide +kernel
theorem dX11_tick_7 : decode cX11_tick 7 = .ok (.ifCond .ne 6, 3) := by decide +kernel
theorem dX11_tick_10 : decode cX11_tick 10 = .ok (.bipush (-2), 2) := by decide +kernel
theorem dX11_tick_12 : decode cX11_tick 12 = .ok (.ireturn, 1) := by decide +kernel
theorem dX11_tick_13 : decode cX11_tick 13 = .ok (.aload_n 0, 1) := by decide +kernel
theorem dX11_tick_14 : decode cX11_tick 14 = .ok (.getfield 48, 3) := by decide +kernel
theorem dX11_tick_17 : decode cX11_tick 17 = .ok (.ifCond .eq 18, 3) := by decide +kernel
theorem dX11_tick_20 : decode cX11_tick 20 = .ok (.aload_n 0, 1) := by decide +kernel
theorem dX11_tick_21 : decode cX11_tick 21 = .ok (.getfield 52, 3) := by decide +kernel
theorem dX11_tick_24 : decode cX11_tick 24 = .ok (.iload_n 1, 1) := by decide +kernel
theorem dX11_tick_25 : decode cX11_tick 25 = .ok (.iadd, 1) := by decide +kernel
theorem dX11_tick_26 : decode cX11_tick 26 = .ok (.bipush 60, 2) := by decide +kernel
theorem dX11_tick_28 : decode cX11_tick 28 = .ok (.if_icmp .le 7, 3) := by decide +kernel
theorem dX11_tick_31 : decode cX11_tick 31 = .ok (.aload_n 0, 1) := by decide +kernel
theorem dX11_tick_32 : decode cX11_tick 32 = .ok (.invokevirtual 55, 3) := by decide +kernel
theorem dX11_tick_35 : decode cX11_tick 35 = .ok (.iconst 0, 1) := by decide +kernel
theorem dX11_tick_36 : decode cX11_tick 36 = .ok (.istore_n 2, 1) := by decide +kernel
theorem dX11_tick_37 : decode cX11_tick 37 = .ok (.iload_n 2, 1) := by decide +kernel
theorem dX11_tick_38 : decode cX11_tick 38 = .ok (.iload_n 1, 1) := by decide +kernel
theorem dX11_tick_39 : decode cX11_tick 39 = .ok (.if_icmp .ge 45, 3) := by decide +kernel
theorem dX11_tick_42 : decode cX11_tick 42 = .ok (.aload_n 0, 1) := by decide +kernel
theorem dX11_tick_43 : decode cX11_tick 43 = .ok (.invokevirtual 172, 3) := by decide +kernel
theorem dX11_tick_46 : decode cX11_tick 46 = .ok (.aload_n 0, 1) := by decide +kernel
theorem dX11_tick_47 : decode cX11_tick 47 = .ok (.getfield 48, 3) := by decide +kernel
theorem dX11_tick_50 : decode cX11_tick 50 = .ok (.ifCond .ne 6, 3) := by decide +kernel
theorem dX11_tick_53 : decode cX11_tick 53 = .ok (.goto 25, 3) := by decide +kernel
theorem dX11_tick_56 : decode cX11_tick 56 = .ok (.aload_n 0, 1) := by decide +kernel
theorem dX11_tick_57 : decode cX11_tick 57 = .ok (.getfield 25, 3) := by decide +kernel
theorem dX11_tick_60 : decode cX11_tick 60 = .ok (.iconst 4, 1) := by decide +kernel
theorem dX11_tick_61 : decode cX11_tick 61 = .ok (.aload_n 0, 1) := by decide +kernel
theorem dX11_tick_62 : decode cX11_tick 62 = .ok (.getfield 52, 3) := by decide +kernel
theorem dX11_tick_65 : decode cX11_tick 65 = .ok (.imul, 1) := by decide +kernel
theorem dX11_tick_66 : decode cX11_tick 66 = .ok (.iconst (-1), 1) := by decide +kernel
theorem dX11_tick_67 : decode cX11_tick 67 = .ok (.iastore, 1) := by decide +kernel
theorem dX11_tick_68 : decode cX11_tick 68 = .ok (.aload_n 0, 1) := by decide +kernel
theorem dX11_tick_69 : decode cX11_tick 69 = .ok (.dup, 1) := by decide +kernel
theorem dX11_tick_70 : decode cX11_tick 70 = .ok (.getfield 52, 3) := by decide +kernel
theorem dX11_tick_73 : decode cX11_tick 73 = .ok (.iconst 1, 1) := by decide +kernel
theorem dX11_tick_74 : decode cX11_tick 74 = .ok (.iadd, 1) := by decide +kernel
theorem dX11_tick_75 : decode cX11_tick 75 = .ok (.putfield 52, 3) := by decide +kernel
theorem dX11_tick_78 : decode cX11_tick 78 = .ok (.iinc 2 1, 3) := by decide +kernel
theorem dX11_tick_81 : decode cX11_tick 81 = .ok (.goto (-44), 3) := by decide +kernel
theorem dX11_tick_84 : decode cX11_tick 84 = .ok (.aload_n 0, 1) := by decide +kernel
theorem dX11_tick_85 : decode cX11_tick 85 = .ok (.getfield 9, 3) := by decide +kernel
theorem dX11_tick_88 : decode cX11_tick 88 = .ok (.sipush 705, 3) := by decide +kernel
theorem dX11_tick_91 : decode cX11_tick 91 = .ok (.iaload, 1) := by decide +kernel
theorem dX11_tick_92 : decode cX11_tick 92 = .ok (.ireturn, 1) := by decide +kernel
theorem dX11_backend_0 : decode cX11_backend 0 = .ok (.aload_n 0, 1) := by decide +kernel
theorem dX11_backend_1 : decode cX11_backend 1 = .ok (.iload_n 1, 1) := by decide +kernel
theorem dX11_backend_2 : decode cX11_backend 2 = .ok (.invokevirtual 62, 3) := by decide +kernel
theorem dX11_backend_5 : decode cX11_backend 5 = .ok (.ifCond .ne 7, 3) := by decide +kernel
theorem dX11_backend_8 : decode cX11_backend 8 = .ok (.iconst (-1), 1) := by decide +kernel
theorem dX11_backend_9 : decode cX11_backend 9 = .ok (.goto 24, 3) := by decide +kernel
theorem dX11_backend_12 : decode cX11_backend 12 = .ok (.iload_n 2, 1) := by decide +kernel
theorem dX11_backend_13 : decode cX11_backend 13 = .ok (.iconst 0, 1) := by decide +kernel
theorem dX11_backend_14 : decode cX11_backend 14 = .ok (.bipush 11, 2) := by decide +kernel
theorem dX11_backend_16 : decode cX11_backend 16 = .ok (.invokestatic 44, 3) := by decide +kernel
theorem dX11_backend_19 : decode cX11_backend 19 = .ok (.ifCond .ne 8, 3) := by decide +kernel
theorem dX11_backend_22 : decode cX11_backend 22 = .ok (.bipush (-2), 2) := by decide +kernel
theorem dX11_backend_24 : decode cX11_backend 24 = .ok (.goto 9, 3) := by decide +kernel
theorem dX11_backend_27 : decode cX11_backend 27 = .ok (.aload_n 0, 1) := by decide +kernel
theorem dX11_backend_28 : decode cX11_backend 28 = .ok (.iload_n 1, 1) := by decide +kernel
theorem dX11_backend_29 : decode cX11_backend 29 = .ok (.iload_n 2, 1) := by decide +kernel
theorem dX11_backend_30 : decode cX11_backend 30 = .ok (.invokevirtual 66, 3) := by decide +kernel
theorem dX11_backend_33 : decode cX11_backend 33 = .ok (.ireturn, 1) := by decide +kernel
theorem dX11_members_0 : decode cX11_members 0 = .ok (.iconst 0, 1) := by decide +kernel
theorem dX11_members_1 : decode cX11_members 1 = .ok (.istore_n 3, 1) := by decide +kernel
theorem dX11_members_2 : decode cX11_members 2 = .ok (.iconst 0, 1) := by decide +kernel
theorem dX11_members_3 : decode cX11_members 3 = .ok (.istore 4, 2) := by decide +kernel
theorem dX11_members_5 : decode cX11_members 5 = .ok (.iload 4, 2) := by decide +kernel
theorem dX11_members_7 : decode cX11_members 7 = .ok (.aload_n 0, 1) := by decide +kernel
theorem dX11_members_8 : decode cX11_members 8 = .ok (.getfield 9, 3) := by decide +kernel
theorem dX11_members_11 : decode cX11_members 11 = .ok (.sipush 144, 3) := by decide +kernel
theorem dX11_members_14 : decode cX11_members 14 = .ok (.iaload, 1) := by decide +kernel
theorem dX11_members_15 : decode cX11_members 15 = .ok (.if_icmp .ge 42, 3) := by decide +kernel
theorem dX11_members_18 : decode cX11_members 18 = .ok (.iload_n 3, 1) := by decide +kernel
theorem dX11_members_19 : decode cX11_members 19 = .ok (.aload_n 0, 1) := by decide +kernel
theorem dX11_members_20 : decode cX11_members 20 = .ok (.iload 4, 2) := by decide +kernel
theorem dX11_members_22 : decode cX11_members 22 = .ok (.iload_n 1, 1) := by decide +kernel
theorem dX11_members_23 : decode cX11_members 23 = .ok (.invokevirtual 121, 3) := by decide +kernel
theorem dX11_members_26 : decode cX11_members 26 = .ok (.ifCond .eq 22, 3) := by decide +kernel
theorem dX11_members_29 : decode cX11_members 29 = .ok (.iload_n 2, 1) := by decide +kernel
theorem dX11_members_30 : decode cX11_members 30 = .ok (.ifCond .eq 14, 3) := by decide +kernel
theorem dX11_members_33 : decode cX11_members 33 = .ok (.aload_n 0, 1) := by decide +kernel
theorem dX11_members_34 : decode cX11_members 34 = .ok (.iload 4, 2) := by decide +kernel
theorem dX11_members_36 : decode cX11_members 36 = .ok (.bipush 9, 2) := by decide +kernel
theorem dX11_members_38 : decode cX11_members 38 = .ok (.invokevirtual 66, 3) := by decide +kernel
theorem dX11_members_41 : decode cX11_members 41 = .ok (.ifCond .le 7, 3) := by decide +kernel
theorem dX11_members_44 : decode cX11_members 44 = .ok (.iconst 1, 1) := by decide +kernel
theorem dX11_members_45 : decode cX11_members 45 = .ok (.goto 4, 3) := by decide +kernel
theorem dX11_members_48 : decode cX11_members 48 = .ok (.iconst 0, 1) := by decide +kernel
theorem dX11_members_49 : decode cX11_members 49 = .ok (.iadd, 1) := by decide +kernel
theorem dX11_members_50 : decode cX11_members 50 = .ok (.istore_n 3, 1) := by decide +kernel
theorem dX11_members_51 : decode cX11_members 51 = .ok (.iinc 4 1, 3) := by decide +kernel
theorem dX11_members_54 : decode cX11_members 54 = .ok (.goto (-49), 3) := by decide +kernel
theorem dX11_members_57 : decode cX11_members 57 = .ok (.iload_n 3, 1) := by decide +kernel
theorem dX11_members_58 : decode cX11_members 58 = .ok (.ireturn, 1) := by decide +kernel
theorem dX11_service_0 : decode cX11_service 0 = .ok (.iload_n 1, 1) := by decide +kernel
theorem dX11_service_1 : decode cX11_service 1 = .ok (.iconst 0, 1) := by decide +kernel
theorem dX11_service_2 : decode cX11_service 2 = .ok (.iconst 3, 1) := by decide +kernel
theorem dX11_service_3 : decode cX11_service 3 = .ok (.invokestatic 44, 3) := by decide +kernel
theorem dX11_service_6 : decode cX11_service 6 = .ok (.ifCond .eq 13, 3) := by decide +kernel
theorem dX11_service_9 : decode cX11_service 9 = .ok (.iload_n 2, 1) := by decide +kernel
theorem dX11_service_10 : decode cX11_service 10 = .ok (.iconst 0, 1) := by decide +kernel
theorem dX11_service_11 : decode cX11_service 11 = .ok (.bipush 12, 2) := by decide +kernel
theorem dX11_service_13 : decode cX11_service 13 = .ok (.invokestatic 44, 3) := by decide +kernel
theorem dX11_service_16 : decode cX11_service 16 = .ok (.ifCond .ne 6, 3) := by decide +kernel
theorem dX11_service_19 : decode cX11_service 19 = .ok (.bipush (-2), 2) := by decide +kernel
theorem dX11_service_21 : decode cX11_service 21 = .ok (.ireturn, 1) := by decide +kernel
theorem dX11_service_22 : decode cX11_service 22 = .ok (.sipush 145, 3) := by decide +kernel
theorem dX11_service_25 : decode cX11_service 25 = .ok (.bipush 21, 2) := by decide +kernel
theorem dX11_service_27 : decode cX11_service 27 = .ok (.iload_n 1, 1) := by decide +kernel
theorem dX11_service_28 : decode cX11_service 28 = .ok (.imul, 1) := by decide +kernel
theorem dX11_service_29 : decode cX11_service 29 = .ok (.iadd, 1) := by decide +kernel
theorem dX11_service_30 : decode cX11_service 30 = .ok (.istore_n 3, 1) := by decide +kernel
theorem dX11_service_31 : decode cX11_service 31 = .ok (.iload_n 2, 1) := by decide +kernel
theorem dX11_service_32 : decode cX11_service 32 = .ok (.bipush 6, 2) := by decide +kernel
theorem dX11_service_34 : decode cX11_service 34 = .ok (.if_icmp .ge 14, 3) := by decide +kernel
theorem dX11_service_37 : decode cX11_service 37 = .ok (.aload_n 0, 1) := by decide +kernel
theorem dX11_service_38 : decode cX11_service 38 = .ok (.getfield 9, 3) := by decide +kernel
theorem dX11_service_41 : decode cX11_service 41 = .ok (.iload_n 3, 1) := by decide +kernel
theorem dX11_service_42 : decode cX11_service 42 = .ok (.iload_n 2, 1) := by decide +kernel
theorem dX11_service_43 : decode cX11_service 43 = .ok (.iadd, 1) := by decide +kernel
theorem dX11_service_44 : decode cX11_service 44 = .ok (.iaload, 1) := by decide +kernel
theorem dX11_service_45 : decode cX11_service 45 = .ok (.goto 38, 3) := by decide +kernel
theorem dX11_service_48 : decode cX11_service 48 = .ok (.iload_n 2, 1) := by decide +kernel
theorem dX11_service_49 : decode cX11_service 49 = .ok (.bipush 8, 2) := by decide +kernel
theorem dX11_service_51 : decode cX11_service 51 = .ok (.if_icmp .ge 22, 3) := by decide +kernel
theorem dX11_service_54 : decode cX11_service 54 = .ok (.aload_n 0, 1) := by decide +kernel
theorem dX11_service_55 : decode cX11_service 55 = .ok (.iload_n 1, 1) := by decide +kernel
theorem dX11_service_56 : decode cX11_service 56 = .ok (.iload_n 2, 1) := by decide +kernel
theorem dX11_service_57 : decode cX11_service 57 = .ok (.bipush 7, 2) := by decide +kernel
theorem dX11_service_59 : decode cX11_service 59 = .ok (.if_icmp .ne 7, 3) := by decide +kernel
theorem dX11_service_62 : decode cX11_service 62 = .ok (.iconst 1, 1) := by decide +kernel
theorem dX11_service_63 : decode cX11_service 63 = .ok (.goto 4, 3) := by decide +kernel
theorem dX11_service_66 : decode cX11_service 66 = .ok (.iconst 0, 1) := by decide +kernel
theorem dX11_service_67 : decode cX11_service 67 = .ok (.invokevirtual 175, 3) := by decide +kernel
theorem dX11_service_70 : decode cX11_service 70 = .ok (.goto 13, 3) := by decide +kernel
theorem dX11_service_73 : decode cX11_service 73 = .ok (.aload_n 0, 1) := by decide +kernel
theorem dX11_service_74 : decode cX11_service 74 = .ok (.getfield 9, 3) := by decide +kernel
theorem dX11_service_77 : decode cX11_service 77 = .ok (.iload_n 3, 1) := by decide +kernel
theorem dX11_service_78 : decode cX11_service 78 = .ok (.iload_n 2, 1) := by decide +kernel
theorem dX11_service_79 : decode cX11_service 79 = .ok (.iadd, 1) := by decide +kernel
theorem dX11_service_80 : decode cX11_service 80 = .ok (.iconst 2, 1) := by decide +kernel
theorem dX11_service_81 : decode cX11_service 81 = .ok (.isub, 1) := by decide +kernel
theorem dX11_service_82 : decode cX11_service 82 = .ok (.iaload, 1) := by decide +kernel
theorem dX11_service_83 : decode cX11_service 83 = .ok (.ireturn, 1) := by decide +kernel
theorem dX11_remembered_0 : decode cX11_remembered 0 = .ok (.iload_n 1, 1) := by decide +kernel
theorem dX11_remembered_1 : decode cX11_remembered 1 = .ok (.iconst 0, 1) := by decide +kernel
theorem dX11_remembered_2 : decode cX11_remembered 2 = .ok (.iconst 3, 1) := by decide +kernel
theorem dX11_remembered_3 : decode cX11_remembered 3 = .ok (.invokestatic 44, 3) := by decide +kernel
theorem dX11_remembered_6 : decode cX11_remembered 6 = .ok (.ifCond .eq 34, 3) := by decide +kernel
theorem dX11_remembered_9 : decode cX11_remembered 9 = .ok (.iload_n 2, 1) := by decide +kernel
theorem dX11_remembered_10 : decode cX11_remembered 10 = .ok (.iconst 0, 1) := by decide +kernel
theorem dX11_remembered_11 : decode cX11_remembered 11 = .ok (.bipush 9, 2) := by decide +kernel
theorem dX11_remembered_13 : decode cX11_remembered 13 = .ok (.invokestatic 44, 3) := by decide +kernel
theorem dX11_remembered_16 : decode cX11_remembered 16 = .ok (.ifCond .eq 24, 3) := by decide +kernel
theorem dX11_remembered_19 : decode cX11_remembered 19 = .ok (.aload_n 0, 1) := by decide +kernel
theorem dX11_remembered_20 : decode cX11_remembered 20 = .ok (.getfield 9, 3) := by decide +kernel
theorem dX11_remembered_23 : decode cX11_remembered 23 = .ok (.sipush 145, 3) := by decide +kernel
theorem dX11_remembered_26 : decode cX11_remembered 26 = .ok (.bipush 21, 2) := by decide +kernel
theorem dX11_remembered_28 : decode cX11_remembered 28 = .ok (.iload_n 1, 1) := by decide +kernel
theorem dX11_remembered_29 : decode cX11_remembered 29 = .ok (.imul, 1) := by decide +kernel
theorem dX11_remembered_30 : decode cX11_remembered 30 = .ok (.iadd, 1) := by decide +kernel
theorem dX11_remembered_31 : decode cX11_remembered 31 = .ok (.bipush 11, 2) := by decide +kernel
theorem dX11_remembered_33 : decode cX11_remembered 33 = .ok (.iadd, 1) := by decide +kernel
theorem dX11_remembered_34 : decode cX11_remembered 34 = .ok (.iload_n 2, 1) := by decide +kernel
theorem dX11_remembered_35 : decode cX11_remembered 35 = .ok (.iadd, 1) := by decide +kernel
theorem dX11_remembered_36 : decode cX11_remembered 36 = .ok (.iaload, 1) := by decide +kernel
theorem dX11_remembered_37 : decode cX11_remembered 37 = .ok (.goto 5, 3) := by decide +kernel
theorem dX11_remembered_40 : decode cX11_remembered 40 = .ok (.bipush (-2), 2) := by decide +kernel
theorem dX11_remembered_42 : decode cX11_remembered 42 = .ok (.ireturn, 1) := by decide +kernel
theorem dX11_target__0 : decode cX11_target_ 0 = .ok (.aload_n 0, 1) := by decide +kernel
theorem dX11_target__1 : decode cX11_target_ 1 = .ok (.iload_n 1, 1) := by decide +kernel
theorem dX11_target__2 : decode cX11_target_ 2 = .ok (.invokevirtual 103, 3) := by decide +kernel
theorem dX11_target__5 : decode cX11_target_ 5 = .ok (.ifCond .eq 29, 3) := by decide +kernel
theorem dX11_target__8 : decode cX11_target_ 8 = .ok (.iload_n 2, 1) := by decide +kernel
theorem dX11_target__9 : decode cX11_target_ 9 = .ok (.iconst 0, 1) := by decide +kernel
theorem dX11_target__10 : decode cX11_target_ 10 = .ok (.aload_n 0, 1) := by decide +kernel
theorem dX11_target__11 : decode cX11_target_ 11 = .ok (.getfield 9, 3) := by decide +kernel
theorem dX11_target__14 : decode cX11_target_ 14 = .ok (.sipush 231, 3) := by decide +kernel
theorem dX11_target__17 : decode cX11_target_ 17 = .ok (.bipush 58, 2) := by decide +kernel
theorem dX11_target__19 : decode cX11_target_ 19 = .ok (.iload_n 1, 1) := by decide +kernel
theorem dX11_target__20 : decode cX11_target_ 20 = .ok (.imul, 1) := by decide +kernel
theorem dX11_target__21 : decode cX11_target_ 21 = .ok (.iadd, 1) := by decide +kernel
theorem dX11_target__22 : decode cX11_target_ 22 = .ok (.bipush 43, 2) := by decide +kernel
theorem dX11_target__24 : decode cX11_target_ 24 = .ok (.iadd, 1) := by decide +kernel
theorem dX11_target__25 : decode cX11_target_ 25 = .ok (.iaload, 1) := by decide +kernel
theorem dX11_target__26 : decode cX11_target_ 26 = .ok (.iconst 1, 1) := by decide +kernel
theorem dX11_target__27 : decode cX11_target_ 27 = .ok (.isub, 1) := by decide +kernel
theorem dX11_target__28 : decode cX11_target_ 28 = .ok (.invokestatic 44, 3) := by decide +kernel
theorem dX11_target__31 : decode cX11_target_ 31 = .ok (.ifCond .ne 5, 3) := by decide +kernel
theorem dX11_target__34 : decode cX11_target_ 34 = .ok (.iconst (-1), 1) := by decide +kernel
theorem dX11_target__35 : decode cX11_target_ 35 = .ok (.ireturn, 1) := by decide +kernel
theorem dX11_target__36 : decode cX11_target_ 36 = .ok (.iload_n 3, 1) := by decide +kernel
theorem dX11_target__37 : decode cX11_target_ 37 = .ok (.iconst 0, 1) := by decide +kernel
theorem dX11_target__38 : decode cX11_target_ 38 = .ok (.iconst 3, 1) := by decide +kernel
theorem dX11_target__39 : decode cX11_target_ 39 = .ok (.invokestatic 44, 3) := by decide +kernel
theorem dX11_target__42 : decode cX11_target_ 42 = .ok (.ifCond .eq 28, 3) := by decide +kernel
theorem dX11_target__45 : decode cX11_target_ 45 = .ok (.aload_n 0, 1) := by decide +kernel
theorem dX11_target__46 : decode cX11_target_ 46 = .ok (.getfield 9, 3) := by decide +kernel
theorem dX11_target__49 : decode cX11_target_ 49 = .ok (.sipush 231, 3) := by decide +kernel
theorem dX11_target__52 : decode cX11_target_ 52 = .ok (.bipush 58, 2) := by decide +kernel
theorem dX11_target__54 : decode cX11_target_ 54 = .ok (.iload_n 1, 1) := by decide +kernel
theorem dX11_target__55 : decode cX11_target_ 55 = .ok (.imul, 1) := by decide +kernel
theorem dX11_target__56 : decode cX11_target_ 56 = .ok (.iadd, 1) := by decide +kernel
theorem dX11_target__57 : decode cX11_target_ 57 = .ok (.bipush 44, 2) := by decide +kernel
theorem dX11_target__59 : decode cX11_target_ 59 = .ok (.iadd, 1) := by decide +kernel
theorem dX11_target__60 : decode cX11_target_ 60 = .ok (.iconst 4, 1) := by decide +kernel
theorem dX11_target__61 : decode cX11_target_ 61 = .ok (.iload_n 2, 1) := by decide +kernel
theorem dX11_target__62 : decode cX11_target_ 62 = .ok (.imul, 1) := by decide +kernel
theorem dX11_target__63 : decode cX11_target_ 63 = .ok (.iadd, 1) := by decide +kernel
theorem dX11_target__64 : decode cX11_target_ 64 = .ok (.iload_n 3, 1) := by decide +kernel
theorem dX11_target__65 : decode cX11_target_ 65 = .ok (.iadd, 1) := by decide +kernel
theorem dX11_target__66 : decode cX11_target_ 66 = .ok (.iaload, 1) := by decide +kernel
theorem dX11_target__67 : decode cX11_target_ 67 = .ok (.goto 5, 3) := by decide +kernel
theorem dX11_target__70 : decode cX11_target_ 70 = .ok (.bipush (-2), 2) := by decide +kernel
theorem dX11_target__72 : decode cX11_target_ 72 = .ok (.ireturn, 1) := by decide +kernel
theorem dX11_trace_0 : decode cX11_trace 0 = .ok (.iload_n 1, 1) := by decide +kernel
theorem dX11_trace_1 : decode cX11_trace 1 = .ok (.iconst 0, 1) := by decide +kernel
theorem dX11_trace_2 : decode cX11_trace 2 = .ok (.aload_n 0, 1) := by decide +kernel
theorem dX11_trace_3 : decode cX11_trace 3 = .ok (.getfield 9, 3) := by decide +kernel
theorem dX11_trace_6 : decode cX11_trace 6 = .ok (.sipush 706, 3) := by decide +kernel
theorem dX11_trace_9 : decode cX11_trace 9 = .ok (.iaload, 1) := by decide +kernel
theorem dX11_trace_10 : decode cX11_trace 10 = .ok (.iconst 1, 1) := by decide +kernel
theorem dX11_trace_11 : decode cX11_trace 11 = .ok (.isub, 1) := by decide +kernel
theorem dX11_trace_12 : decode cX11_trace 12 = .ok (.invokestatic 44, 3) := by decide +kernel
theorem dX11_trace_15 : decode cX11_trace 15 = .ok (.ifCond .ne 7, 3) := by decide +kernel
theorem dX11_trace_18 : decode cX11_trace 18 = .ok (.iconst (-1), 1) := by decide +kernel
theorem dX11_trace_19 : decode cX11_trace 19 = .ok (.goto 31, 3) := by decide +kernel
theorem dX11_trace_22 : decode cX11_trace 22 = .ok (.iload_n 2, 1) := by decide +kernel
theorem dX11_trace_23 : decode cX11_trace 23 = .ok (.iconst 0, 1) := by decide +kernel
theorem dX11_trace_24 : decode cX11_trace 24 = .ok (.iconst 3, 1) := by decide +kernel
theorem dX11_trace_25 : decode cX11_trace 25 = .ok (.invokestatic 44, 3) := by decide +kernel
theorem dX11_trace_28 : decode cX11_trace 28 = .ok (.ifCond .eq 20, 3) := by decide +kernel
theorem dX11_trace_31 : decode cX11_trace 31 = .ok (.aload_n 0, 1) := by decide +kernel
theorem dX11_trace_32 : decode cX11_trace 32 = .ok (.getfield 9, 3) := by decide +kernel
theorem dX11_trace_35 : decode cX11_trace 35 = .ok (.sipush 707, 3) := by decide +kernel
theorem dX11_trace_38 : decode cX11_trace 38 = .ok (.iconst 4, 1) := by decide +kernel
theorem dX11_trace_39 : decode cX11_trace 39 = .ok (.iload_n 1, 1) := by decide +kernel
theorem dX11_trace_40 : decode cX11_trace 40 = .ok (.imul, 1) := by decide +kernel
theorem dX11_trace_41 : decode cX11_trace 41 = .ok (.iadd, 1) := by decide +kernel
theorem dX11_trace_42 : decode cX11_trace 42 = .ok (.iload_n 2, 1) := by decide +kernel
theorem dX11_trace_43 : decode cX11_trace 43 = .ok (.iadd, 1) := by decide +kernel
theorem dX11_trace_44 : decode cX11_trace 44 = .ok (.iaload, 1) := by decide +kernel
theorem dX11_trace_45 : decode cX11_trace 45 = .ok (.goto 5, 3) := by decide +kernel
theorem dX11_trace_48 : decode cX11_trace 48 = .ok (.bipush (-2), 2) := by decide +kernel
theorem dX11_trace_50 : decode cX11_trace 50 = .ok (.ireturn, 1) := by decide +kernel
theorem dX11_count_0 : decode cX11_count 0 = .ok (.iload_n 1, 1) := by decide +kernel
theorem dX11_count_1 : decode cX11_count 1 = .ok (.iconst 0, 1) := by decide +kernel
theorem dX11_count_2 : decode cX11_count 2 = .ok (.bipush 13, 2) := by decide +kernel
theorem dX11_count_4 : decode cX11_count 4 = .ok (.invokestatic 44, 3) := by decide +kernel
theorem dX11_count_7 : decode cX11_count 7 = .ok (.ifCond .ne 6, 3) := by decide +kernel
theorem dX11_count_10 : decode cX11_count 10 = .ok (.bipush (-2), 2) := by decide +kernel
theorem dX11_count_12 : decode cX11_count 12 = .ok (.ireturn, 1) := by decide +kernel
theorem dX11_count_13 : decode cX11_count 13 = .ok (.iload_n 1, 1) := by decide +kernel
theorem dX11_count_14 : decode cX11_count 14 = .ok (.tableswitch 107 0 13 #[70, 79, 107, 107, 107, 107, 107, 107, 107, 107, 107, 88, 93, 102], 70) := by decide +kernel
theorem dX11_count_84 : decode cX11_count 84 = .ok (.aload_n 0, 1) := by decide +kernel
theorem dX11_count_85 : decode cX11_count 85 = .ok (.getfield 9, 3) := by decide +kernel
theorem dX11_count_88 : decode cX11_count 88 = .ok (.sipush 144, 3) := by decide +kernel
theorem dX11_count_91 : decode cX11_count 91 = .ok (.iaload, 1) := by decide +kernel
theorem dX11_count_92 : decode cX11_count 92 = .ok (.ireturn, 1) := by decide +kernel
theorem dX11_count_93 : decode cX11_count 93 = .ok (.aload_n 0, 1) := by decide +kernel
theorem dX11_count_94 : decode cX11_count 94 = .ok (.getfield 9, 3) := by decide +kernel
theorem dX11_count_97 : decode cX11_count 97 = .ok (.sipush 230, 3) := by decide +kernel
theorem dX11_count_100 : decode cX11_count 100 = .ok (.iaload, 1) := by decide +kernel
theorem dX11_count_101 : decode cX11_count 101 = .ok (.ireturn, 1) := by decide +kernel
theorem dX11_count_102 : decode cX11_count 102 = .ok (.aload_n 0, 1) := by decide +kernel
theorem dX11_count_103 : decode cX11_count 103 = .ok (.getfield 52, 3) := by decide +kernel
theorem dX11_count_106 : decode cX11_count 106 = .ok (.ireturn, 1) := by decide +kernel
theorem dX11_count_107 : decode cX11_count 107 = .ok (.aload_n 0, 1) := by decide +kernel
theorem dX11_count_108 : decode cX11_count 108 = .ok (.getfield 9, 3) := by decide +kernel
theorem dX11_count_111 : decode cX11_count 111 = .ok (.sipush 706, 3) := by decide +kernel
theorem dX11_count_114 : decode cX11_count 114 = .ok (.iaload, 1) := by decide +kernel
theorem dX11_count_115 : decode cX11_count 115 = .ok (.ireturn, 1) := by decide +kernel
theorem dX11_count_116 : decode cX11_count 116 = .ok (.aload_n 0, 1) := by decide +kernel
theorem dX11_count_117 : decode cX11_count 117 = .ok (.getfield 74, 3) := by decide +kernel
theorem dX11_count_120 : decode cX11_count 120 = .ok (.ireturn, 1) := by decide +kernel
theorem dX11_count_121 : decode cX11_count 121 = .ok (.aload_n 0, 1) := by decide +kernel
theorem dX11_count_122 : decode cX11_count 122 = .ok (.getfield 9, 3) := by decide +kernel
theorem dX11_count_125 : decode cX11_count 125 = .ok (.sipush 695, 3) := by decide +kernel
theorem dX11_count_128 : decode cX11_count 128 = .ok (.iload_n 1, 1) := by decide +kernel
theorem dX11_count_129 : decode cX11_count 129 = .ok (.iadd, 1) := by decide +kernel
theorem dX11_count_130 : decode cX11_count 130 = .ok (.iaload, 1) := by decide +kernel
theorem dX11_count_131 : decode cX11_count 131 = .ok (.ireturn, 1) := by decide +kernel
theorem dX11_prints_0 : decode cX11_prints 0 = .ok (.aload_n 0, 1) := by decide +kernel
theorem dX11_prints_1 : decode cX11_prints 1 = .ok (.getfield 31, 3) := by decide +kernel
theorem dX11_prints_4 : decode cX11_prints 4 = .ok (.aload_n 0, 1) := by decide +kernel
theorem dX11_prints_5 : decode cX11_prints 5 = .ok (.getfield 179, 3) := by decide +kernel
theorem dX11_prints_8 : decode cX11_prints 8 = .ok (.iload_n 1, 1) := by decide +kernel
theorem dX11_prints_9 : decode cX11_prints 9 = .ok (.iastore, 1) := by decide +kernel
theorem dX11_prints_10 : decode cX11_prints 10 = .ok (.aload_n 0, 1) := by decide +kernel
theorem dX11_prints_11 : decode cX11_prints 11 = .ok (.dup, 1) := by decide +kernel
theorem dX11_prints_12 : decode cX11_prints 12 = .ok (.getfield 179, 3) := by decide +kernel
theorem dX11_prints_15 : decode cX11_prints 15 = .ok (.iconst 1, 1) := by decide +kernel
theorem dX11_prints_16 : decode cX11_prints 16 = .ok (.iadd, 1) := by decide +kernel
theorem dX11_prints_17 : decode cX11_prints 17 = .ok (.putfield 179, 3) := by decide +kernel
theorem dX11_prints_20 : decode cX11_prints 20 = .ok (.return_, 1) := by decide +kernel
theorem dX11_printsTwo_0 : decode cX11_printsTwo 0 = .ok (.aload_n 0, 1) := by decide +kernel
theorem dX11_printsTwo_1 : decode cX11_printsTwo 1 = .ok (.iload_n 1, 1) := by decide +kernel
theorem dX11_printsTwo_2 : decode cX11_printsTwo 2 = .ok (.invokevirtual 182, 3) := by decide +kernel
theorem dX11_printsTwo_5 : decode cX11_printsTwo 5 = .ok (.aload_n 0, 1) := by decide +kernel
theorem dX11_printsTwo_6 : decode cX11_printsTwo 6 = .ok (.bipush 48, 2) := by decide +kernel
theorem dX11_printsTwo_8 : decode cX11_printsTwo 8 = .ok (.iload_n 2, 1) := by decide +kernel
theorem dX11_printsTwo_9 : decode cX11_printsTwo 9 = .ok (.iadd, 1) := by decide +kernel
theorem dX11_printsTwo_10 : decode cX11_printsTwo 10 = .ok (.invokevirtual 182, 3) := by decide +kernel
theorem dX11_printsTwo_13 : decode cX11_printsTwo 13 = .ok (.return_, 1) := by decide +kernel
theorem dX11_print_0 : decode cX11_print 0 = .ok (.aload_n 0, 1) := by decide +kernel
theorem dX11_print_1 : decode cX11_print 1 = .ok (.iload_n 1, 1) := by decide +kernel
theorem dX11_print_2 : decode cX11_print 2 = .ok (.invokevirtual 103, 3) := by decide +kernel
theorem dX11_print_5 : decode cX11_print 5 = .ok (.ifCond .ne 5, 3) := by decide +kernel
theorem dX11_print_8 : decode cX11_print 8 = .ok (.iconst (-1), 1) := by decide +kernel
theorem dX11_print_9 : decode cX11_print 9 = .ok (.ireturn, 1) := by decide +kernel
theorem dX11_print_10 : decode cX11_print 10 = .ok (.aload_n 0, 1) := by decide +kernel
theorem dX11_print_11 : decode cX11_print 11 = .ok (.iconst 0, 1) := by decide +kernel
theorem dX11_print_12 : decode cX11_print 12 = .ok (.putfield 179, 3) := by decide +kernel
theorem dX11_print_15 : decode cX11_print 15 = .ok (.sipush 231, 3) := by decide +kernel
theorem dX11_print_18 : decode cX11_print 18 = .ok (.bipush 58, 2) := by decide +kernel
theorem dX11_print_20 : decode cX11_print 20 = .ok (.iload_n 1, 1) := by decide +kernel
theorem dX11_print_21 : decode cX11_print 21 = .ok (.imul, 1) := by decide +kernel
theorem dX11_print_22 : decode cX11_print 22 = .ok (.iadd, 1) := by decide +kernel
theorem dX11_print_23 : decode cX11_print 23 = .ok (.istore_n 2, 1) := by decide +kernel
theorem dX11_print_24 : decode cX11_print 24 = .ok (.iconst 0, 1) := by decide +kernel
theorem dX11_print_25 : decode cX11_print 25 = .ok (.istore_n 3, 1) := by decide +kernel
theorem dX11_print_26 : decode cX11_print 26 = .ok (.iload_n 3, 1) := by decide +kernel
theorem dX11_print_27 : decode cX11_print 27 = .ok (.aload_n 0, 1) := by decide +kernel
theorem dX11_print_28 : decode cX11_print 28 = .ok (.getfield 9, 3) := by decide +kernel
theorem dX11_print_31 : decode cX11_print 31 = .ok (.iload_n 2, 1) := by decide +kernel
theorem dX11_print_32 : decode cX11_print 32 = .ok (.iaload, 1) := by decide +kernel
theorem dX11_print_33 : decode cX11_print 33 = .ok (.if_icmp .ge 23, 3) := by decide +kernel
theorem dX11_print_36 : decode cX11_print 36 = .ok (.aload_n 0, 1) := by decide +kernel
theorem dX11_print_37 : decode cX11_print 37 = .ok (.aload_n 0, 1) := by decide +kernel
theorem dX11_print_38 : decode cX11_print 38 = .ok (.getfield 9, 3) := by decide +kernel
theorem dX11_print_41 : decode cX11_print 41 = .ok (.iload_n 2, 1) := by decide +kernel
theorem dX11_print_42 : decode cX11_print 42 = .ok (.iconst 1, 1) := by decide +kernel
theorem dX11_print_43 : decode cX11_print 43 = .ok (.iadd, 1) := by decide +kernel
theorem dX11_print_44 : decode cX11_print 44 = .ok (.iload_n 3, 1) := by decide +kernel
theorem dX11_print_45 : decode cX11_print 45 = .ok (.iadd, 1) := by decide +kernel
theorem dX11_print_46 : decode cX11_print 46 = .ok (.iaload, 1) := by decide +kernel
theorem dX11_print_47 : decode cX11_print 47 = .ok (.invokevirtual 182, 3) := by decide +kernel
theorem dX11_print_50 : decode cX11_print 50 = .ok (.iinc 3 1, 3) := by decide +kernel
theorem dX11_print_53 : decode cX11_print 53 = .ok (.goto (-27), 3) := by decide +kernel
theorem dX11_print_56 : decode cX11_print 56 = .ok (.aload_n 0, 1) := by decide +kernel
theorem dX11_print_57 : decode cX11_print 57 = .ok (.getfield 9, 3) := by decide +kernel
theorem dX11_print_60 : decode cX11_print 60 = .ok (.iload_n 2, 1) := by decide +kernel
theorem dX11_print_61 : decode cX11_print 61 = .ok (.bipush 41, 2) := by decide +kernel
theorem dX11_print_63 : decode cX11_print 63 = .ok (.iadd, 1) := by decide +kernel
theorem dX11_print_64 : decode cX11_print 64 = .ok (.iaload, 1) := by decide +kernel
theorem dX11_print_65 : decode cX11_print 65 = .ok (.ifCond .gt 17, 3) := by decide +kernel
theorem dX11_print_68 : decode cX11_print 68 = .ok (.aload_n 0, 1) := by decide +kernel
theorem dX11_print_69 : decode cX11_print 69 = .ok (.getfield 9, 3) := by decide +kernel
theorem dX11_print_72 : decode cX11_print 72 = .ok (.iload_n 2, 1) := by decide +kernel
theorem dX11_print_73 : decode cX11_print 73 = .ok (.bipush 42, 2) := by decide +kernel
theorem dX11_print_75 : decode cX11_print 75 = .ok (.iadd, 1) := by decide +kernel
theorem dX11_print_76 : decode cX11_print 76 = .ok (.iaload, 1) := by decide +kernel
theorem dX11_print_77 : decode cX11_print 77 = .ok (.bipush 9, 2) := by decide +kernel
theorem dX11_print_79 : decode cX11_print 79 = .ok (.if_icmp .ge 39, 3) := by decide +kernel
theorem dX11_print_82 : decode cX11_print 82 = .ok (.aload_n 0, 1) := by decide +kernel
theorem dX11_print_83 : decode cX11_print 83 = .ok (.bipush 91, 2) := by decide +kernel
theorem dX11_print_85 : decode cX11_print 85 = .ok (.aload_n 0, 1) := by decide +kernel
theorem dX11_print_86 : decode cX11_print 86 = .ok (.getfield 9, 3) := by decide +kernel
theorem dX11_print_89 : decode cX11_print 89 = .ok (.iload_n 2, 1) := by decide +kernel
theorem dX11_print_90 : decode cX11_print 90 = .ok (.bipush 41, 2) := by decide +kernel
theorem dX11_print_92 : decode cX11_print 92 = .ok (.iadd, 1) := by decide +kernel
theorem dX11_print_93 : decode cX11_print 93 = .ok (.iaload, 1) := by decide +kernel
theorem dX11_print_94 : decode cX11_print 94 = .ok (.invokevirtual 185, 3) := by decide +kernel
theorem dX11_print_97 : decode cX11_print 97 = .ok (.aload_n 0, 1) := by decide +kernel
theorem dX11_print_98 : decode cX11_print 98 = .ok (.bipush 45, 2) := by decide +kernel
theorem dX11_print_100 : decode cX11_print 100 = .ok (.aload_n 0, 1) := by decide +kernel
theorem dX11_print_101 : decode cX11_print 101 = .ok (.getfield 9, 3) := by decide +kernel
theorem dX11_print_104 : decode cX11_print 104 = .ok (.iload_n 2, 1) := by decide +kernel
theorem dX11_print_105 : decode cX11_print 105 = .ok (.bipush 42, 2) := by decide +kernel
theorem dX11_print_107 : decode cX11_print 107 = .ok (.iadd, 1) := by decide +kernel
theorem dX11_print_108 : decode cX11_print 108 = .ok (.iaload, 1) := by decide +kernel
theorem dX11_print_109 : decode cX11_print 109 = .ok (.invokevirtual 185, 3) := by decide +kernel
theorem dX11_print_112 : decode cX11_print 112 = .ok (.aload_n 0, 1) := by decide +kernel
theorem dX11_print_113 : decode cX11_print 113 = .ok (.bipush 93, 2) := by decide +kernel
theorem dX11_print_115 : decode cX11_print 115 = .ok (.invokevirtual 182, 3) := by decide +kernel
theorem dX11_print_118 : decode cX11_print 118 = .ok (.iconst 0, 1) := by decide +kernel
theorem dX11_print_119 : decode cX11_print 119 = .ok (.istore_n 3, 1) := by decide +kernel
theorem dX11_print_120 : decode cX11_print 120 = .ok (.iload_n 3, 1) := by decide +kernel
theorem dX11_print_121 : decode cX11_print 121 = .ok (.aload_n 0, 1) := by decide +kernel
theorem dX11_print_122 : decode cX11_print 122 = .ok (.getfield 9, 3) := by decide +kernel
theorem dX11_print_125 : decode cX11_print 125 = .ok (.iload_n 2, 1) := by decide +kernel
theorem dX11_print_126 : decode cX11_print 126 = .ok (.bipush 43, 2) := by decide +kernel
theorem dX11_print_128 : decode cX11_print 128 = .ok (.iadd, 1) := by decide +kernel
theorem dX11_print_129 : decode cX11_print 129 = .ok (.iaload, 1) := by decide +kernel
theorem dX11_print_130 : decode cX11_print 130 = .ok (.if_icmp .ge 77, 3) := by decide +kernel
theorem dX11_print_133 : decode cX11_print 133 = .ok (.aload_n 0, 1) := by decide +kernel
theorem dX11_print_134 : decode cX11_print 134 = .ok (.iload_n 3, 1) := by decide +kernel
theorem dX11_print_135 : decode cX11_print 135 = .ok (.ifCond .ne 8, 3) := by decide +kernel
theorem dX11_print_138 : decode cX11_print 138 = .ok (.bipush 61, 2) := by decide +kernel
theorem dX11_print_140 : decode cX11_print 140 = .ok (.goto 5, 3) := by decide +kernel
theorem dX11_print_143 : decode cX11_print 143 = .ok (.bipush 44, 2) := by decide +kernel
theorem dX11_print_145 : decode cX11_print 145 = .ok (.aload_n 0, 1) := by decide +kernel
theorem dX11_print_146 : decode cX11_print 146 = .ok (.getfield 9, 3) := by decide +kernel
theorem dX11_print_149 : decode cX11_print 149 = .ok (.iload_n 2, 1) := by decide +kernel
theorem dX11_print_150 : decode cX11_print 150 = .ok (.bipush 44, 2) := by decide +kernel
theorem dX11_print_152 : decode cX11_print 152 = .ok (.iadd, 1) := by decide +kernel
theorem dX11_print_153 : decode cX11_print 153 = .ok (.iconst 4, 1) := by decide +kernel
theorem dX11_print_154 : decode cX11_print 154 = .ok (.iload_n 3, 1) := by decide +kernel
theorem dX11_print_155 : decode cX11_print 155 = .ok (.imul, 1) := by decide +kernel
theorem dX11_print_156 : decode cX11_print 156 = .ok (.iadd, 1) := by decide +kernel
theorem dX11_print_157 : decode cX11_print 157 = .ok (.iaload, 1) := by decide +kernel
theorem dX11_print_158 : decode cX11_print 158 = .ok (.invokevirtual 185, 3) := by decide +kernel
theorem dX11_print_161 : decode cX11_print 161 = .ok (.aload_n 0, 1) := by decide +kernel
theorem dX11_print_162 : decode cX11_print 162 = .ok (.getfield 9, 3) := by decide +kernel
theorem dX11_print_165 : decode cX11_print 165 = .ok (.iload_n 2, 1) := by decide +kernel
theorem dX11_print_166 : decode cX11_print 166 = .ok (.bipush 44, 2) := by decide +kernel
theorem dX11_print_168 : decode cX11_print 168 = .ok (.iadd, 1) := by decide +kernel
theorem dX11_print_169 : decode cX11_print 169 = .ok (.iconst 4, 1) := by decide +kernel
theorem dX11_print_170 : decode cX11_print 170 = .ok (.iload_n 3, 1) := by decide +kernel
theorem dX11_print_171 : decode cX11_print 171 = .ok (.imul, 1) := by decide +kernel
theorem dX11_print_172 : decode cX11_print 172 = .ok (.iadd, 1) := by decide +kernel
theorem dX11_print_173 : decode cX11_print 173 = .ok (.iconst 1, 1) := by decide +kernel
theorem dX11_print_174 : decode cX11_print 174 = .ok (.iadd, 1) := by decide +kernel
theorem dX11_print_175 : decode cX11_print 175 = .ok (.iaload, 1) := by decide +kernel
theorem dX11_print_176 : decode cX11_print 176 = .ok (.iconst 1, 1) := by decide +kernel
theorem dX11_print_177 : decode cX11_print 177 = .ok (.if_icmp .le 24, 3) := by decide +kernel
theorem dX11_print_180 : decode cX11_print 180 = .ok (.aload_n 0, 1) := by decide +kernel
theorem dX11_print_181 : decode cX11_print 181 = .ok (.bipush 58, 2) := by decide +kernel
theorem dX11_print_183 : decode cX11_print 183 = .ok (.aload_n 0, 1) := by decide +kernel
theorem dX11_print_184 : decode cX11_print 184 = .ok (.getfield 9, 3) := by decide +kernel
theorem dX11_print_187 : decode cX11_print 187 = .ok (.iload_n 2, 1) := by decide +kernel
theorem dX11_print_188 : decode cX11_print 188 = .ok (.bipush 44, 2) := by decide +kernel
theorem dX11_print_190 : decode cX11_print 190 = .ok (.iadd, 1) := by decide +kernel
theorem dX11_print_191 : decode cX11_print 191 = .ok (.iconst 4, 1) := by decide +kernel
theorem dX11_print_192 : decode cX11_print 192 = .ok (.iload_n 3, 1) := by decide +kernel
theorem dX11_print_193 : decode cX11_print 193 = .ok (.imul, 1) := by decide +kernel
theorem dX11_print_194 : decode cX11_print 194 = .ok (.iadd, 1) := by decide +kernel
theorem dX11_print_195 : decode cX11_print 195 = .ok (.iconst 1, 1) := by decide +kernel
theorem dX11_print_196 : decode cX11_print 196 = .ok (.iadd, 1) := by decide +kernel
theorem dX11_print_197 : decode cX11_print 197 = .ok (.iaload, 1) := by decide +kernel
theorem dX11_print_198 : decode cX11_print 198 = .ok (.invokevirtual 185, 3) := by decide +kernel
theorem dX11_print_201 : decode cX11_print 201 = .ok (.iinc 3 1, 3) := by decide +kernel
theorem dX11_print_204 : decode cX11_print 204 = .ok (.goto (-84), 3) := by decide +kernel
theorem dX11_print_207 : decode cX11_print 207 = .ok (.aload_n 0, 1) := by decide +kernel
theorem dX11_print_208 : decode cX11_print 208 = .ok (.getfield 9, 3) := by decide +kernel
theorem dX11_print_211 : decode cX11_print 211 = .ok (.iload_n 2, 1) := by decide +kernel
theorem dX11_print_212 : decode cX11_print 212 = .ok (.bipush 57, 2) := by decide +kernel
theorem dX11_print_214 : decode cX11_print 214 = .ok (.iadd, 1) := by decide +kernel
theorem dX11_print_215 : decode cX11_print 215 = .ok (.iaload, 1) := by decide +kernel
theorem dX11_print_216 : decode cX11_print 216 = .ok (.ifCond .lt 18, 3) := by decide +kernel
theorem dX11_print_219 : decode cX11_print 219 = .ok (.aload_n 0, 1) := by decide +kernel
theorem dX11_print_220 : decode cX11_print 220 = .ok (.bipush 126, 2) := by decide +kernel
theorem dX11_print_222 : decode cX11_print 222 = .ok (.aload_n 0, 1) := by decide +kernel
theorem dX11_print_223 : decode cX11_print 223 = .ok (.getfield 9, 3) := by decide +kernel
theorem dX11_print_226 : decode cX11_print 226 = .ok (.iload_n 2, 1) := by decide +kernel
theorem dX11_print_227 : decode cX11_print 227 = .ok (.bipush 57, 2) := by decide +kernel
theorem dX11_print_229 : decode cX11_print 229 = .ok (.iadd, 1) := by decide +kernel
theorem dX11_print_230 : decode cX11_print 230 = .ok (.iaload, 1) := by decide +kernel
theorem dX11_print_231 : decode cX11_print 231 = .ok (.invokevirtual 185, 3) := by decide +kernel
theorem dX11_print_234 : decode cX11_print 234 = .ok (.aload_n 0, 1) := by decide +kernel
theorem dX11_print_235 : decode cX11_print 235 = .ok (.getfield 9, 3) := by decide +kernel
theorem dX11_print_238 : decode cX11_print 238 = .ok (.iload_n 2, 1) := by decide +kernel
theorem dX11_print_239 : decode cX11_print 239 = .ok (.bipush 56, 2) := by decide +kernel
theorem dX11_print_241 : decode cX11_print 241 = .ok (.iadd, 1) := by decide +kernel
theorem dX11_print_242 : decode cX11_print 242 = .ok (.iaload, 1) := by decide +kernel
theorem dX11_print_243 : decode cX11_print 243 = .ok (.iconst 1, 1) := by decide +kernel
theorem dX11_print_244 : decode cX11_print 244 = .ok (.if_icmp .le 18, 3) := by decide +kernel
theorem dX11_print_247 : decode cX11_print 247 = .ok (.aload_n 0, 1) := by decide +kernel
theorem dX11_print_248 : decode cX11_print 248 = .ok (.bipush 42, 2) := by decide +kernel
theorem dX11_print_250 : decode cX11_print 250 = .ok (.aload_n 0, 1) := by decide +kernel
theorem dX11_print_251 : decode cX11_print 251 = .ok (.getfield 9, 3) := by decide +kernel
theorem dX11_print_254 : decode cX11_print 254 = .ok (.iload_n 2, 1) := by decide +kernel
theorem dX11_print_255 : decode cX11_print 255 = .ok (.bipush 56, 2) := by decide +kernel
theorem dX11_print_257 : decode cX11_print 257 = .ok (.iadd, 1) := by decide +kernel
theorem dX11_print_258 : decode cX11_print 258 = .ok (.iaload, 1) := by decide +kernel
theorem dX11_print_259 : decode cX11_print 259 = .ok (.invokevirtual 185, 3) := by decide +kernel
theorem dX11_print_262 : decode cX11_print 262 = .ok (.aload_n 0, 1) := by decide +kernel
theorem dX11_print_263 : decode cX11_print 263 = .ok (.getfield 179, 3) := by decide +kernel
theorem dX11_print_266 : decode cX11_print 266 = .ok (.ireturn, 1) := by decide +kernel
theorem dX11_printed_0 : decode cX11_printed 0 = .ok (.iload_n 1, 1) := by decide +kernel
theorem dX11_printed_1 : decode cX11_printed 1 = .ok (.iconst 0, 1) := by decide +kernel
theorem dX11_printed_2 : decode cX11_printed 2 = .ok (.aload_n 0, 1) := by decide +kernel
theorem dX11_printed_3 : decode cX11_printed 3 = .ok (.getfield 179, 3) := by decide +kernel
theorem dX11_printed_6 : decode cX11_printed 6 = .ok (.iconst 1, 1) := by decide +kernel
theorem dX11_printed_7 : decode cX11_printed 7 = .ok (.isub, 1) := by decide +kernel
theorem dX11_printed_8 : decode cX11_printed 8 = .ok (.invokestatic 44, 3) := by decide +kernel
theorem dX11_printed_11 : decode cX11_printed 11 = .ok (.ifCond .eq 12, 3) := by decide +kernel
theorem dX11_printed_14 : decode cX11_printed 14 = .ok (.aload_n 0, 1) := by decide +kernel
theorem dX11_printed_15 : decode cX11_printed 15 = .ok (.getfield 31, 3) := by decide +kernel
theorem dX11_printed_18 : decode cX11_printed 18 = .ok (.iload_n 1, 1) := by decide +kernel
theorem dX11_printed_19 : decode cX11_printed 19 = .ok (.iaload, 1) := by decide +kernel
theorem dX11_printed_20 : decode cX11_printed 20 = .ok (.goto 4, 3) := by decide +kernel
theorem dX11_printed_23 : decode cX11_printed 23 = .ok (.iconst (-1), 1) := by decide +kernel
theorem dX11_printed_24 : decode cX11_printed 24 = .ok (.ireturn, 1) := by decide +kernel
theorem dX11_mark_0 : decode cX11_mark 0 = .ok (.aload_n 0, 1) := by decide +kernel
theorem dX11_mark_1 : decode cX11_mark 1 = .ok (.getfield 9, 3) := by decide +kernel
theorem dX11_mark_4 : decode cX11_mark 4 = .ok (.aload_n 0, 1) := by decide +kernel
theorem dX11_mark_5 : decode cX11_mark 5 = .ok (.getfield 16, 3) := by decide +kernel
theorem dX11_mark_8 : decode cX11_mark 8 = .ok (.invokestatic 168, 3) := by decide +kernel
theorem dX11_mark_11 : decode cX11_mark 11 = .ok (.aload_n 0, 1) := by decide +kernel
theorem dX11_mark_12 : decode cX11_mark 12 = .ok (.iconst 1, 1) := by decide +kernel
theorem dX11_mark_13 : decode cX11_mark 13 = .ok (.putfield 48, 3) := by decide +kernel
theorem dX11_mark_16 : decode cX11_mark 16 = .ok (.aload_n 0, 1) := by decide +kernel
theorem dX11_mark_17 : decode cX11_mark 17 = .ok (.iconst 0, 1) := by decide +kernel
theorem dX11_mark_18 : decode cX11_mark 18 = .ok (.putfield 52, 3) := by decide +kernel
theorem dX11_mark_21 : decode cX11_mark 21 = .ok (.aload_n 0, 1) := by decide +kernel
theorem dX11_mark_22 : decode cX11_mark 22 = .ok (.getfield 9, 3) := by decide +kernel
theorem dX11_mark_25 : decode cX11_mark 25 = .ok (.sipush 144, 3) := by decide +kernel
theorem dX11_mark_28 : decode cX11_mark 28 = .ok (.iaload, 1) := by decide +kernel
theorem dX11_mark_29 : decode cX11_mark 29 = .ok (.ireturn, 1) := by decide +kernel
theorem dX11_plays_0 : decode cX11_plays 0 = .ok (.iload_n 1, 1) := by decide +kernel
theorem dX11_plays_1 : decode cX11_plays 1 = .ok (.iconst 0, 1) := by decide +kernel
theorem dX11_plays_2 : decode cX11_plays 2 = .ok (.iconst 4, 1) := by decide +kernel
theorem dX11_plays_3 : decode cX11_plays 3 = .ok (.invokestatic 44, 3) := by decide +kernel
theorem dX11_plays_6 : decode cX11_plays 6 = .ok (.ifCond .ne 6, 3) := by decide +kernel
theorem dX11_plays_9 : decode cX11_plays 9 = .ok (.bipush (-2), 2) := by decide +kernel
theorem dX11_plays_11 : decode cX11_plays 11 = .ok (.ireturn, 1) := by decide +kernel
theorem dX11_plays_12 : decode cX11_plays 12 = .ok (.aload_n 0, 1) := by decide +kernel
theorem dX11_plays_13 : decode cX11_plays 13 = .ok (.getfield 48, 3) := by decide +kernel
theorem dX11_plays_16 : decode cX11_plays 16 = .ok (.ifCond .ne 5, 3) := by decide +kernel
theorem dX11_plays_19 : decode cX11_plays 19 = .ok (.iconst (-1), 1) := by decide +kernel
theorem dX11_plays_20 : decode cX11_plays 20 = .ok (.ireturn, 1) := by decide +kernel
theorem dX11_plays_21 : decode cX11_plays 21 = .ok (.aload_n 0, 1) := by decide +kernel
theorem dX11_plays_22 : decode cX11_plays 22 = .ok (.getfield 9, 3) := by decide +kernel
theorem dX11_plays_25 : decode cX11_plays 25 = .ok (.aload_n 0, 1) := by decide +kernel
theorem dX11_plays_26 : decode cX11_plays 26 = .ok (.getfield 19, 3) := by decide +kernel
theorem dX11_plays_29 : decode cX11_plays 29 = .ok (.invokestatic 168, 3) := by decide +kernel
theorem dX11_plays_32 : decode cX11_plays 32 = .ok (.aload_n 0, 1) := by decide +kernel
theorem dX11_plays_33 : decode cX11_plays 33 = .ok (.getfield 74, 3) := by decide +kernel
theorem dX11_plays_36 : decode cX11_plays 36 = .ok (.istore_n 3, 1) := by decide +kernel
theorem dX11_plays_37 : decode cX11_plays 37 = .ok (.iconst 0, 1) := by decide +kernel
theorem dX11_plays_38 : decode cX11_plays 38 = .ok (.istore 4, 2) := by decide +kernel
theorem dX11_plays_40 : decode cX11_plays 40 = .ok (.iload 4, 2) := by decide +kernel
theorem dX11_plays_42 : decode cX11_plays 42 = .ok (.iload_n 3, 1) := by decide +kernel
theorem dX11_plays_43 : decode cX11_plays 43 = .ok (.if_icmp .ge 23, 3) := by decide +kernel
theorem dX11_plays_46 : decode cX11_plays 46 = .ok (.aload_n 0, 1) := by decide +kernel
theorem dX11_plays_47 : decode cX11_plays 47 = .ok (.getfield 41, 3) := by decide +kernel
theorem dX11_plays_50 : decode cX11_plays 50 = .ok (.iload 4, 2) := by decide +kernel
theorem dX11_plays_52 : decode cX11_plays 52 = .ok (.aload_n 0, 1) := by decide +kernel
theorem dX11_plays_53 : decode cX11_plays 53 = .ok (.getfield 22, 3) := by decide +kernel
theorem dX11_plays_56 : decode cX11_plays 56 = .ok (.iload 4, 2) := by decide +kernel
theorem dX11_plays_58 : decode cX11_plays 58 = .ok (.iaload, 1) := by decide +kernel
theorem dX11_plays_59 : decode cX11_plays 59 = .ok (.iastore, 1) := by decide +kernel
theorem dX11_plays_60 : decode cX11_plays 60 = .ok (.iinc 4 1, 3) := by decide +kernel
theorem dX11_plays_63 : decode cX11_plays 63 = .ok (.goto (-23), 3) := by decide +kernel
theorem dX11_plays_66 : decode cX11_plays 66 = .ok (.aload_n 0, 1) := by decide +kernel
theorem dX11_plays_67 : decode cX11_plays 67 = .ok (.getfield 16, 3) := by decide +kernel
theorem dX11_plays_70 : decode cX11_plays 70 = .ok (.aload_n 0, 1) := by decide +kernel
theorem dX11_plays_71 : decode cX11_plays 71 = .ok (.getfield 9, 3) := by decide +kernel
theorem dX11_plays_74 : decode cX11_plays 74 = .ok (.invokestatic 168, 3) := by decide +kernel
theorem dX11_plays_77 : decode cX11_plays 77 = .ok (.aload_n 0, 1) := by decide +kernel
theorem dX11_plays_78 : decode cX11_plays 78 = .ok (.iload_n 1, 1) := by decide +kernel
theorem dX11_plays_79 : decode cX11_plays 79 = .ok (.putfield 37, 3) := by decide +kernel
theorem dX11_plays_82 : decode cX11_plays 82 = .ok (.iconst 0, 1) := by decide +kernel
theorem dX11_plays_83 : decode cX11_plays 83 = .ok (.istore 4, 2) := by decide +kernel
theorem dX11_plays_85 : decode cX11_plays 85 = .ok (.iconst 0, 1) := by decide +kernel
theorem dX11_plays_86 : decode cX11_plays 86 = .ok (.istore 5, 2) := by decide +kernel
theorem dX11_plays_88 : decode cX11_plays 88 = .ok (.iload 5, 2) := by decide +kernel
theorem dX11_plays_90 : decode cX11_plays 90 = .ok (.aload_n 0, 1) := by decide +kernel
theorem dX11_plays_91 : decode cX11_plays 91 = .ok (.getfield 52, 3) := by decide +kernel
theorem dX11_plays_94 : decode cX11_plays 94 = .ok (.if_icmp .ge 140, 3) := by decide +kernel
theorem dX11_plays_97 : decode cX11_plays 97 = .ok (.aload_n 0, 1) := by decide +kernel
theorem dX11_plays_98 : decode cX11_plays 98 = .ok (.aload_n 0, 1) := by decide +kernel
theorem dX11_plays_99 : decode cX11_plays 99 = .ok (.getfield 25, 3) := by decide +kernel
theorem dX11_plays_102 : decode cX11_plays 102 = .ok (.iconst 4, 1) := by decide +kernel
theorem dX11_plays_103 : decode cX11_plays 103 = .ok (.iload 5, 2) := by decide +kernel
theorem dX11_plays_105 : decode cX11_plays 105 = .ok (.imul, 1) := by decide +kernel
theorem dX11_plays_106 : decode cX11_plays 106 = .ok (.iaload, 1) := by decide +kernel
theorem dX11_plays_107 : decode cX11_plays 107 = .ok (.putfield 74, 3) := by decide +kernel
theorem dX11_plays_110 : decode cX11_plays 110 = .ok (.aload_n 0, 1) := by decide +kernel
theorem dX11_plays_111 : decode cX11_plays 111 = .ok (.getfield 74, 3) := by decide +kernel
theorem dX11_plays_114 : decode cX11_plays 114 = .ok (.ifCond .ge 10, 3) := by decide +kernel
theorem dX11_plays_117 : decode cX11_plays 117 = .ok (.aload_n 0, 1) := by decide +kernel
theorem dX11_plays_118 : decode cX11_plays 118 = .ok (.invokevirtual 172, 3) := by decide +kernel
theorem dX11_plays_121 : decode cX11_plays 121 = .ok (.goto 107, 3) := by decide +kernel
theorem dX11_plays_124 : decode cX11_plays 124 = .ok (.iconst 0, 1) := by decide +kernel
theorem dX11_plays_125 : decode cX11_plays 125 = .ok (.istore 6, 2) := by decide +kernel
theorem dX11_plays_127 : decode cX11_plays 127 = .ok (.iload 6, 2) := by decide +kernel
theorem dX11_plays_129 : decode cX11_plays 129 = .ok (.aload_n 0, 1) := by decide +kernel
theorem dX11_plays_130 : decode cX11_plays 130 = .ok (.getfield 74, 3) := by decide +kernel
theorem dX11_plays_133 : decode cX11_plays 133 = .ok (.if_icmp .ge 29, 3) := by decide +kernel
theorem dX11_plays_136 : decode cX11_plays 136 = .ok (.aload_n 0, 1) := by decide +kernel
theorem dX11_plays_137 : decode cX11_plays 137 = .ok (.getfield 22, 3) := by decide +kernel
theorem dX11_plays_140 : decode cX11_plays 140 = .ok (.iload 6, 2) := by decide +kernel
theorem dX11_plays_142 : decode cX11_plays 142 = .ok (.aload_n 0, 1) := by decide +kernel
theorem dX11_plays_143 : decode cX11_plays 143 = .ok (.getfield 28, 3) := by decide +kernel
theorem dX11_plays_146 : decode cX11_plays 146 = .ok (.bipush 40, 2) := by decide +kernel
theorem dX11_plays_148 : decode cX11_plays 148 = .ok (.iload 5, 2) := by decide +kernel
theorem dX11_plays_150 : decode cX11_plays 150 = .ok (.imul, 1) := by decide +kernel
theorem dX11_plays_151 : decode cX11_plays 151 = .ok (.iload 6, 2) := by decide +kernel
theorem dX11_plays_153 : decode cX11_plays 153 = .ok (.iadd, 1) := by decide +kernel
theorem dX11_plays_154 : decode cX11_plays 154 = .ok (.iaload, 1) := by decide +kernel
theorem dX11_plays_155 : decode cX11_plays 155 = .ok (.iastore, 1) := by decide +kernel
theorem dX11_plays_156 : decode cX11_plays 156 = .ok (.iinc 6 1, 3) := by decide +kernel
theorem dX11_plays_159 : decode cX11_plays 159 = .ok (.goto (-32), 3) := by decide +kernel
theorem dX11_plays_162 : decode cX11_plays 162 = .ok (.aload_n 0, 1) := by decide +kernel
theorem dX11_plays_163 : decode cX11_plays 163 = .ok (.aload_n 0, 1) := by decide +kernel
theorem dX11_plays_164 : decode cX11_plays 164 = .ok (.getfield 25, 3) := by decide +kernel
theorem dX11_plays_167 : decode cX11_plays 167 = .ok (.iconst 4, 1) := by decide +kernel
theorem dX11_plays_168 : decode cX11_plays 168 = .ok (.iload 5, 2) := by decide +kernel
theorem dX11_plays_170 : decode cX11_plays 170 = .ok (.imul, 1) := by decide +kernel
theorem dX11_plays_171 : decode cX11_plays 171 = .ok (.iconst 1, 1) := by decide +kernel
theorem dX11_plays_172 : decode cX11_plays 172 = .ok (.iadd, 1) := by decide +kernel
theorem dX11_plays_173 : decode cX11_plays 173 = .ok (.iaload, 1) := by decide +kernel
theorem dX11_plays_174 : decode cX11_plays 174 = .ok (.aload_n 0, 1) := by decide +kernel
theorem dX11_plays_175 : decode cX11_plays 175 = .ok (.getfield 25, 3) := by decide +kernel
theorem dX11_plays_178 : decode cX11_plays 178 = .ok (.iconst 4, 1) := by decide +kernel
theorem dX11_plays_179 : decode cX11_plays 179 = .ok (.iload 5, 2) := by decide +kernel
theorem dX11_plays_181 : decode cX11_plays 181 = .ok (.imul, 1) := by decide +kernel
theorem dX11_plays_182 : decode cX11_plays 182 = .ok (.iconst 2, 1) := by decide +kernel
theorem dX11_plays_183 : decode cX11_plays 183 = .ok (.iadd, 1) := by decide +kernel
theorem dX11_plays_184 : decode cX11_plays 184 = .ok (.iaload, 1) := by decide +kernel
theorem dX11_plays_185 : decode cX11_plays 185 = .ok (.invokevirtual 165, 3) := by decide +kernel
theorem dX11_plays_188 : decode cX11_plays 188 = .ok (.istore 6, 2) := by decide +kernel
theorem dX11_plays_190 : decode cX11_plays 190 = .ok (.iload 4, 2) := by decide +kernel
theorem dX11_plays_192 : decode cX11_plays 192 = .ok (.iload_n 2, 1) := by decide +kernel
theorem dX11_plays_193 : decode cX11_plays 193 = .ok (.ifCond .eq 11, 3) := by decide +kernel
theorem dX11_plays_196 : decode cX11_plays 196 = .ok (.iload 6, 2) := by decide +kernel
theorem dX11_plays_198 : decode cX11_plays 198 = .ok (.ifCond .lt 26, 3) := by decide +kernel
theorem dX11_plays_201 : decode cX11_plays 201 = .ok (.goto 19, 3) := by decide +kernel
theorem dX11_plays_204 : decode cX11_plays 204 = .ok (.iload 6, 2) := by decide +kernel
theorem dX11_plays_206 : decode cX11_plays 206 = .ok (.aload_n 0, 1) := by decide +kernel
theorem dX11_plays_207 : decode cX11_plays 207 = .ok (.getfield 25, 3) := by decide +kernel
theorem dX11_plays_210 : decode cX11_plays 210 = .ok (.iconst 4, 1) := by decide +kernel
theorem dX11_plays_211 : decode cX11_plays 211 = .ok (.iload 5, 2) := by decide +kernel
theorem dX11_plays_213 : decode cX11_plays 213 = .ok (.imul, 1) := by decide +kernel
theorem dX11_plays_214 : decode cX11_plays 214 = .ok (.iconst 3, 1) := by decide +kernel
theorem dX11_plays_215 : decode cX11_plays 215 = .ok (.iadd, 1) := by decide +kernel
theorem dX11_plays_216 : decode cX11_plays 216 = .ok (.iaload, 1) := by decide +kernel
theorem dX11_plays_217 : decode cX11_plays 217 = .ok (.if_icmp .eq 7, 3) := by decide +kernel
theorem dX11_plays_220 : decode cX11_plays 220 = .ok (.iconst 1, 1) := by decide +kernel
theorem dX11_plays_221 : decode cX11_plays 221 = .ok (.goto 4, 3) := by decide +kernel
theorem dX11_plays_224 : decode cX11_plays 224 = .ok (.iconst 0, 1) := by decide +kernel
theorem dX11_plays_225 : decode cX11_plays 225 = .ok (.iadd, 1) := by decide +kernel
theorem dX11_plays_226 : decode cX11_plays 226 = .ok (.istore 4, 2) := by decide +kernel
theorem dX11_plays_228 : decode cX11_plays 228 = .ok (.iinc 5 1, 3) := by decide +kernel
theorem dX11_plays_231 : decode cX11_plays 231 = .ok (.goto (-143), 3) := by decide +kernel
theorem dX11_plays_234 : decode cX11_plays 234 = .ok (.aload_n 0, 1) := by decide +kernel
theorem dX11_plays_235 : decode cX11_plays 235 = .ok (.iconst (-1), 1) := by decide +kernel
theorem dX11_plays_236 : decode cX11_plays 236 = .ok (.putfield 37, 3) := by decide +kernel
theorem dX11_plays_239 : decode cX11_plays 239 = .ok (.aload_n 0, 1) := by decide +kernel
theorem dX11_plays_240 : decode cX11_plays 240 = .ok (.iload_n 3, 1) := by decide +kernel
theorem dX11_plays_241 : decode cX11_plays 241 = .ok (.putfield 74, 3) := by decide +kernel
theorem dX11_plays_244 : decode cX11_plays 244 = .ok (.iconst 0, 1) := by decide +kernel
theorem dX11_plays_245 : decode cX11_plays 245 = .ok (.istore 5, 2) := by decide +kernel
theorem dX11_plays_247 : decode cX11_plays 247 = .ok (.iload 5, 2) := by decide +kernel
theorem dX11_plays_249 : decode cX11_plays 249 = .ok (.iload_n 3, 1) := by decide +kernel
theorem dX11_plays_250 : decode cX11_plays 250 = .ok (.if_icmp .ge 23, 3) := by decide +kernel
theorem dX11_plays_253 : decode cX11_plays 253 = .ok (.aload_n 0, 1) := by decide +kernel
theorem dX11_plays_254 : decode cX11_plays 254 = .ok (.getfield 22, 3) := by decide +kernel
theorem dX11_plays_257 : decode cX11_plays 257 = .ok (.iload 5, 2) := by decide +kernel
theorem dX11_plays_259 : decode cX11_plays 259 = .ok (.aload_n 0, 1) := by decide +kernel
theorem dX11_plays_260 : decode cX11_plays 260 = .ok (.getfield 41, 3) := by decide +kernel
theorem dX11_plays_263 : decode cX11_plays 263 = .ok (.iload 5, 2) := by decide +kernel
theorem dX11_plays_265 : decode cX11_plays 265 = .ok (.iaload, 1) := by decide +kernel
theorem dX11_plays_266 : decode cX11_plays 266 = .ok (.iastore, 1) := by decide +kernel
theorem dX11_plays_267 : decode cX11_plays 267 = .ok (.iinc 5 1, 3) := by decide +kernel
theorem dX11_plays_270 : decode cX11_plays 270 = .ok (.goto (-23), 3) := by decide +kernel
theorem dX11_plays_273 : decode cX11_plays 273 = .ok (.aload_n 0, 1) := by decide +kernel
theorem dX11_plays_274 : decode cX11_plays 274 = .ok (.getfield 19, 3) := by decide +kernel
theorem dX11_plays_277 : decode cX11_plays 277 = .ok (.aload_n 0, 1) := by decide +kernel
theorem dX11_plays_278 : decode cX11_plays 278 = .ok (.getfield 9, 3) := by decide +kernel
theorem dX11_plays_281 : decode cX11_plays 281 = .ok (.invokestatic 168, 3) := by decide +kernel
theorem dX11_plays_284 : decode cX11_plays 284 = .ok (.iload 4, 2) := by decide +kernel
theorem dX11_plays_286 : decode cX11_plays 286 = .ok (.ireturn, 1) := by decide +kernel
theorem dX11_play_0 : decode cX11_play 0 = .ok (.aload_n 0, 1) := by decide +kernel
theorem dX11_play_1 : decode cX11_play 1 = .ok (.iload_n 1, 1) := by decide +kernel
theorem dX11_play_2 : decode cX11_play 2 = .ok (.iconst 0, 1) := by decide +kernel
theorem dX11_play_3 : decode cX11_play 3 = .ok (.invokevirtual 188, 3) := by decide +kernel
theorem dX11_play_6 : decode cX11_play 6 = .ok (.ireturn, 1) := by decide +kernel
theorem dX11_answeredIf_0 : decode cX11_answeredIf 0 = .ok (.aload_n 0, 1) := by decide +kernel
theorem dX11_answeredIf_1 : decode cX11_answeredIf 1 = .ok (.iload_n 1, 1) := by decide +kernel
theorem dX11_answeredIf_2 : decode cX11_answeredIf 2 = .ok (.iconst 1, 1) := by decide +kernel
theorem dX11_answeredIf_3 : decode cX11_answeredIf 3 = .ok (.invokevirtual 188, 3) := by decide +kernel
theorem dX11_answeredIf_6 : decode cX11_answeredIf 6 = .ok (.ireturn, 1) := by decide +kernel
theorem dX11_save_0 : decode cX11_save 0 = .ok (.aload_n 0, 1) := by decide +kernel
theorem dX11_save_1 : decode cX11_save 1 = .ok (.getfield 9, 3) := by decide +kernel
theorem dX11_save_4 : decode cX11_save 4 = .ok (.aload_n 0, 1) := by decide +kernel
theorem dX11_save_5 : decode cX11_save 5 = .ok (.getfield 13, 3) := by decide +kernel
theorem dX11_save_8 : decode cX11_save 8 = .ok (.invokestatic 168, 3) := by decide +kernel
theorem dX11_save_11 : decode cX11_save 11 = .ok (.aload_n 0, 1) := by decide +kernel
theorem dX11_save_12 : decode cX11_save 12 = .ok (.iconst 1, 1) := by decide +kernel
theorem dX11_save_13 : decode cX11_save 13 = .ok (.putfield 191, 3) := by decide +kernel
theorem dX11_save_16 : decode cX11_save 16 = .ok (.aload_n 0, 1) := by decide +kernel
theorem dX11_save_17 : decode cX11_save 17 = .ok (.getfield 9, 3) := by decide +kernel
theorem dX11_save_20 : decode cX11_save 20 = .ok (.sipush 144, 3) := by decide +kernel
theorem dX11_save_23 : decode cX11_save 23 = .ok (.iaload, 1) := by decide +kernel
theorem dX11_save_24 : decode cX11_save 24 = .ok (.ireturn, 1) := by decide +kernel
theorem dX11_restore_0 : decode cX11_restore 0 = .ok (.aload_n 0, 1) := by decide +kernel
theorem dX11_restore_1 : decode cX11_restore 1 = .ok (.getfield 191, 3) := by decide +kernel
theorem dX11_restore_4 : decode cX11_restore 4 = .ok (.ifCond .ne 5, 3) := by decide +kernel
theorem dX11_restore_7 : decode cX11_restore 7 = .ok (.iconst (-1), 1) := by decide +kernel
theorem dX11_restore_8 : decode cX11_restore 8 = .ok (.ireturn, 1) := by decide +kernel
theorem dX11_restore_9 : decode cX11_restore 9 = .ok (.aload_n 0, 1) := by decide +kernel
theorem dX11_restore_10 : decode cX11_restore 10 = .ok (.invokevirtual 55, 3) := by decide +kernel
theorem dX11_restore_13 : decode cX11_restore 13 = .ok (.aload_n 0, 1) := by decide +kernel
theorem dX11_restore_14 : decode cX11_restore 14 = .ok (.getfield 13, 3) := by decide +kernel
theorem dX11_restore_17 : decode cX11_restore 17 = .ok (.aload_n 0, 1) := by decide +kernel
theorem dX11_restore_18 : decode cX11_restore 18 = .ok (.getfield 9, 3) := by decide +kernel
theorem dX11_restore_21 : decode cX11_restore 21 = .ok (.invokestatic 168, 3) := by decide +kernel
theorem dX11_restore_24 : decode cX11_restore 24 = .ok (.aload_n 0, 1) := by decide +kernel
theorem dX11_restore_25 : decode cX11_restore 25 = .ok (.getfield 9, 3) := by decide +kernel
theorem dX11_restore_28 : decode cX11_restore 28 = .ok (.sipush 706, 3) := by decide +kernel
theorem dX11_restore_31 : decode cX11_restore 31 = .ok (.iconst 0, 1) := by decide +kernel
theorem dX11_restore_32 : decode cX11_restore 32 = .ok (.iastore, 1) := by decide +kernel
theorem dX11_restore_33 : decode cX11_restore 33 = .ok (.aload_n 0, 1) := by decide +kernel
theorem dX11_restore_34 : decode cX11_restore 34 = .ok (.getfield 9, 3) := by decide +kernel
theorem dX11_restore_37 : decode cX11_restore 37 = .ok (.sipush 144, 3) := by decide +kernel
theorem dX11_restore_40 : decode cX11_restore 40 = .ok (.iaload, 1) := by decide +kernel
theorem dX11_restore_41 : decode cX11_restore 41 = .ok (.ireturn, 1) := by decide +kernel
theorem dL_law_0 : decode cL_law 0 = .ok (.new 7, 3) := by decide +kernel
theorem dL_law_3 : decode cL_law 3 = .ok (.dup, 1) := by decide +kernel
theorem dL_law_4 : decode cL_law 4 = .ok (.invokespecial 9, 3) := by decide +kernel
theorem dL_law_7 : decode cL_law 7 = .ok (.astore_n 1, 1) := by decide +kernel
theorem dL_law_8 : decode cL_law 8 = .ok (.new 10, 3) := by decide +kernel
theorem dL_law_11 : decode cL_law 11 = .ok (.dup, 1) := by decide +kernel
theorem dL_law_12 : decode cL_law 12 = .ok (.invokespecial 12, 3) := by decide +kernel
theorem dL_law_15 : decode cL_law 15 = .ok (.astore_n 2, 1) := by decide +kernel
theorem dL_law_16 : decode cL_law 16 = .ok (.iconst 0, 1) := by decide +kernel
theorem dL_law_17 : decode cL_law 17 = .ok (.istore_n 3, 1) := by decide +kernel
theorem dL_law_18 : decode cL_law 18 = .ok (.iload_n 3, 1) := by decide +kernel
theorem dL_law_19 : decode cL_law 19 = .ok (.aload_n 0, 1) := by decide +kernel
theorem dL_law_20 : decode cL_law 20 = .ok (.arraylength, 1) := by decide +kernel
theorem dL_law_21 : decode cL_law 21 = .ok (.bipush 7, 2) := by decide +kernel
theorem dL_law_23 : decode cL_law 23 = .ok (.isub, 1) := by decide +kernel
theorem dL_law_24 : decode cL_law 24 = .ok (.if_icmp .gt 884, 3) := by decide +kernel
theorem dL_law_27 : decode cL_law 27 = .ok (.aload_n 0, 1) := by decide +kernel
theorem dL_law_28 : decode cL_law 28 = .ok (.iload_n 3, 1) := by decide +kernel
theorem dL_law_29 : decode cL_law 29 = .ok (.iaload, 1) := by decide +kernel
theorem dL_law_30 : decode cL_law 30 = .ok (.bipush 31, 2) := by decide +kernel
theorem dL_law_32 : decode cL_law 32 = .ok (.iand, 1) := by decide +kernel
theorem dL_law_33 : decode cL_law 33 = .ok (.tableswitch 869 0 25 #[119, 162, 195, 228, 303, 326, 359, 372, 395, 428, 451, 484, 517, 540, 573, 606, 639, 682, 715, 738, 761, 784, 797, 820, 843, 856], 119) := by decide +kernel
theorem dL_law_152 : decode cL_law 152 = .ok (.aload_n 1, 1) := by decide +kernel
theorem dL_law_153 : decode cL_law 153 = .ok (.aload_n 0, 1) := by decide +kernel
theorem dL_law_154 : decode cL_law 154 = .ok (.iload_n 3, 1) := by decide +kernel
theorem dL_law_155 : decode cL_law 155 = .ok (.iconst 1, 1) := by decide +kernel
theorem dL_law_156 : decode cL_law 156 = .ok (.iadd, 1) := by decide +kernel
theorem dL_law_157 : decode cL_law 157 = .ok (.iaload, 1) := by decide +kernel
theorem dL_law_158 : decode cL_law 158 = .ok (.aload_n 0, 1) := by decide +kernel
theorem dL_law_159 : decode cL_law 159 = .ok (.iload_n 3, 1) := by decide +kernel
theorem dL_law_160 : decode cL_law 160 = .ok (.iconst 2, 1) := by decide +kernel
theorem dL_law_161 : decode cL_law 161 = .ok (.iadd, 1) := by decide +kernel
theorem dL_law_162 : decode cL_law 162 = .ok (.iaload, 1) := by decide +kernel
theorem dL_law_163 : decode cL_law 163 = .ok (.aload_n 0, 1) := by decide +kernel
theorem dL_law_164 : decode cL_law 164 = .ok (.iload_n 3, 1) := by decide +kernel
theorem dL_law_165 : decode cL_law 165 = .ok (.iconst 3, 1) := by decide +kernel
theorem dL_law_166 : decode cL_law 166 = .ok (.iadd, 1) := by decide +kernel
theorem dL_law_167 : decode cL_law 167 = .ok (.iaload, 1) := by decide +kernel
theorem dL_law_168 : decode cL_law 168 = .ok (.invokevirtual 13, 3) := by decide +kernel
theorem dL_law_171 : decode cL_law 171 = .ok (.aload_n 2, 1) := by decide +kernel
theorem dL_law_172 : decode cL_law 172 = .ok (.aload_n 0, 1) := by decide +kernel
theorem dL_law_173 : decode cL_law 173 = .ok (.iload_n 3, 1) := by decide +kernel
theorem dL_law_174 : decode cL_law 174 = .ok (.iconst 1, 1) := by decide +kernel
theorem dL_law_175 : decode cL_law 175 = .ok (.iadd, 1) := by decide +kernel
theorem dL_law_176 : decode cL_law 176 = .ok (.iaload, 1) := by decide +kernel
theorem dL_law_177 : decode cL_law 177 = .ok (.aload_n 0, 1) := by decide +kernel
theorem dL_law_178 : decode cL_law 178 = .ok (.iload_n 3, 1) := by decide +kernel
theorem dL_law_179 : decode cL_law 179 = .ok (.iconst 2, 1) := by decide +kernel
theorem dL_law_180 : decode cL_law 180 = .ok (.iadd, 1) := by decide +kernel
theorem dL_law_181 : decode cL_law 181 = .ok (.iaload, 1) := by decide +kernel
theorem dL_law_182 : decode cL_law 182 = .ok (.aload_n 0, 1) := by decide +kernel
theorem dL_law_183 : decode cL_law 183 = .ok (.iload_n 3, 1) := by decide +kernel
theorem dL_law_184 : decode cL_law 184 = .ok (.iconst 3, 1) := by decide +kernel
theorem dL_law_185 : decode cL_law 185 = .ok (.iadd, 1) := by decide +kernel
theorem dL_law_186 : decode cL_law 186 = .ok (.iaload, 1) := by decide +kernel
theorem dL_law_187 : decode cL_law 187 = .ok (.invokevirtual 17, 3) := by decide +kernel
theorem dL_law_190 : decode cL_law 190 = .ok (.if_icmp .eq 712, 3) := by decide +kernel
theorem dL_law_193 : decode cL_law 193 = .ok (.iconst 0, 1) := by decide +kernel
theorem dL_law_194 : decode cL_law 194 = .ok (.ireturn, 1) := by decide +kernel
theorem dL_law_195 : decode cL_law 195 = .ok (.aload_n 1, 1) := by decide +kernel
theorem dL_law_196 : decode cL_law 196 = .ok (.aload_n 0, 1) := by decide +kernel
theorem dL_law_197 : decode cL_law 197 = .ok (.iload_n 3, 1) := by decide +kernel
theorem dL_law_198 : decode cL_law 198 = .ok (.iconst 1, 1) := by decide +kernel
theorem dL_law_199 : decode cL_law 199 = .ok (.iadd, 1) := by decide +kernel
theorem dL_law_200 : decode cL_law 200 = .ok (.iaload, 1) := by decide +kernel
theorem dL_law_201 : decode cL_law 201 = .ok (.aload_n 0, 1) := by decide +kernel
theorem dL_law_202 : decode cL_law 202 = .ok (.iload_n 3, 1) := by decide +kernel
theorem dL_law_203 : decode cL_law 203 = .ok (.iconst 2, 1) := by decide +kernel
theorem dL_law_204 : decode cL_law 204 = .ok (.iadd, 1) := by decide +kernel
theorem dL_law_205 : decode cL_law 205 = .ok (.iaload, 1) := by decide +kernel
theorem dL_law_206 : decode cL_law 206 = .ok (.invokevirtual 18, 3) := by decide +kernel
theorem dL_law_209 : decode cL_law 209 = .ok (.aload_n 2, 1) := by decide +kernel
theorem dL_law_210 : decode cL_law 210 = .ok (.aload_n 0, 1) := by decide +kernel
theorem dL_law_211 : decode cL_law 211 = .ok (.iload_n 3, 1) := by decide +kernel
theorem dL_law_212 : decode cL_law 212 = .ok (.iconst 1, 1) := by decide +kernel
theorem dL_law_213 : decode cL_law 213 = .ok (.iadd, 1) := by decide +kernel
theorem dL_law_214 : decode cL_law 214 = .ok (.iaload, 1) := by decide +kernel
theorem dL_law_215 : decode cL_law 215 = .ok (.aload_n 0, 1) := by decide +kernel
theorem dL_law_216 : decode cL_law 216 = .ok (.iload_n 3, 1) := by decide +kernel
theorem dL_law_217 : decode cL_law 217 = .ok (.iconst 2, 1) := by decide +kernel
theorem dL_law_218 : decode cL_law 218 = .ok (.iadd, 1) := by decide +kernel
theorem dL_law_219 : decode cL_law 219 = .ok (.iaload, 1) := by decide +kernel
theorem dL_law_220 : decode cL_law 220 = .ok (.invokevirtual 22, 3) := by decide +kernel
theorem dL_law_223 : decode cL_law 223 = .ok (.if_icmp .eq 679, 3) := by decide +kernel
theorem dL_law_226 : decode cL_law 226 = .ok (.iconst 0, 1) := by decide +kernel
theorem dL_law_227 : decode cL_law 227 = .ok (.ireturn, 1) := by decide +kernel
theorem dL_law_228 : decode cL_law 228 = .ok (.aload_n 1, 1) := by decide +kernel
theorem dL_law_229 : decode cL_law 229 = .ok (.aload_n 0, 1) := by decide +kernel
theorem dL_law_230 : decode cL_law 230 = .ok (.iload_n 3, 1) := by decide +kernel
theorem dL_law_231 : decode cL_law 231 = .ok (.iconst 1, 1) := by decide +kernel
theorem dL_law_232 : decode cL_law 232 = .ok (.iadd, 1) := by decide +kernel
theorem dL_law_233 : decode cL_law 233 = .ok (.iaload, 1) := by decide +kernel
theorem dL_law_234 : decode cL_law 234 = .ok (.aload_n 0, 1) := by decide +kernel
theorem dL_law_235 : decode cL_law 235 = .ok (.iload_n 3, 1) := by decide +kernel
theorem dL_law_236 : decode cL_law 236 = .ok (.iconst 2, 1) := by decide +kernel
theorem dL_law_237 : decode cL_law 237 = .ok (.iadd, 1) := by decide +kernel
theorem dL_law_238 : decode cL_law 238 = .ok (.iaload, 1) := by decide +kernel
theorem dL_law_239 : decode cL_law 239 = .ok (.invokevirtual 23, 3) := by decide +kernel
theorem dL_law_242 : decode cL_law 242 = .ok (.aload_n 2, 1) := by decide +kernel
theorem dL_law_243 : decode cL_law 243 = .ok (.aload_n 0, 1) := by decide +kernel
theorem dL_law_244 : decode cL_law 244 = .ok (.iload_n 3, 1) := by decide +kernel
theorem dL_law_245 : decode cL_law 245 = .ok (.iconst 1, 1) := by decide +kernel
theorem dL_law_246 : decode cL_law 246 = .ok (.iadd, 1) := by decide +kernel
theorem dL_law_247 : decode cL_law 247 = .ok (.iaload, 1) := by decide +kernel
theorem dL_law_248 : decode cL_law 248 = .ok (.aload_n 0, 1) := by decide +kernel
theorem dL_law_249 : decode cL_law 249 = .ok (.iload_n 3, 1) := by decide +kernel
theorem dL_law_250 : decode cL_law 250 = .ok (.iconst 2, 1) := by decide +kernel
theorem dL_law_251 : decode cL_law 251 = .ok (.iadd, 1) := by decide +kernel
theorem dL_law_252 : decode cL_law 252 = .ok (.iaload, 1) := by decide +kernel
theorem dL_law_253 : decode cL_law 253 = .ok (.invokevirtual 26, 3) := by decide +kernel
theorem dL_law_256 : decode cL_law 256 = .ok (.if_icmp .eq 646, 3) := by decide +kernel
theorem dL_law_259 : decode cL_law 259 = .ok (.iconst 0, 1) := by decide +kernel
theorem dL_law_260 : decode cL_law 260 = .ok (.ireturn, 1) := by decide +kernel
theorem dL_law_261 : decode cL_law 261 = .ok (.aload_n 1, 1) := by decide +kernel
theorem dL_law_262 : decode cL_law 262 = .ok (.aload_n 0, 1) := by decide +kernel
theorem dL_law_263 : decode cL_law 263 = .ok (.iload_n 3, 1) := by decide +kernel
theorem dL_law_264 : decode cL_law 264 = .ok (.iconst 1, 1) := by decide +kernel
theorem dL_law_265 : decode cL_law 265 = .ok (.iadd, 1) := by decide +kernel
theorem dL_law_266 : decode cL_law 266 = .ok (.iaload, 1) := by decide +kernel
theorem dL_law_267 : decode cL_law 267 = .ok (.aload_n 0, 1) := by decide +kernel
theorem dL_law_268 : decode cL_law 268 = .ok (.iload_n 3, 1) := by decide +kernel
theorem dL_law_269 : decode cL_law 269 = .ok (.iconst 2, 1) := by decide +kernel
theorem dL_law_270 : decode cL_law 270 = .ok (.iadd, 1) := by decide +kernel
theorem dL_law_271 : decode cL_law 271 = .ok (.iaload, 1) := by decide +kernel
theorem dL_law_272 : decode cL_law 272 = .ok (.aload_n 0, 1) := by decide +kernel
theorem dL_law_273 : decode cL_law 273 = .ok (.iload_n 3, 1) := by decide +kernel
theorem dL_law_274 : decode cL_law 274 = .ok (.iconst 3, 1) := by decide +kernel
theorem dL_law_275 : decode cL_law 275 = .ok (.iadd, 1) := by decide +kernel
theorem dL_law_276 : decode cL_law 276 = .ok (.iaload, 1) := by decide +kernel
theorem dL_law_277 : decode cL_law 277 = .ok (.aload_n 0, 1) := by decide +kernel
theorem dL_law_278 : decode cL_law 278 = .ok (.iload_n 3, 1) := by decide +kernel
theorem dL_law_279 : decode cL_law 279 = .ok (.iconst 4, 1) := by decide +kernel
theorem dL_law_280 : decode cL_law 280 = .ok (.iadd, 1) := by decide +kernel
theorem dL_law_281 : decode cL_law 281 = .ok (.iaload, 1) := by decide +kernel
theorem dL_law_282 : decode cL_law 282 = .ok (.aload_n 0, 1) := by decide +kernel
theorem dL_law_283 : decode cL_law 283 = .ok (.iload_n 3, 1) := by decide +kernel
theorem dL_law_284 : decode cL_law 284 = .ok (.iconst 5, 1) := by decide +kernel
theorem dL_law_285 : decode cL_law 285 = .ok (.iadd, 1) := by decide +kernel
theorem dL_law_286 : decode cL_law 286 = .ok (.iaload, 1) := by decide +kernel
theorem dL_law_287 : decode cL_law 287 = .ok (.aload_n 0, 1) := by decide +kernel
theorem dL_law_288 : decode cL_law 288 = .ok (.iload_n 3, 1) := by decide +kernel
theorem dL_law_289 : decode cL_law 289 = .ok (.bipush 6, 2) := by decide +kernel
theorem dL_law_291 : decode cL_law 291 = .ok (.iadd, 1) := by decide +kernel
theorem dL_law_292 : decode cL_law 292 = .ok (.iaload, 1) := by decide +kernel
theorem dL_law_293 : decode cL_law 293 = .ok (.invokevirtual 27, 3) := by decide +kernel
theorem dL_law_296 : decode cL_law 296 = .ok (.aload_n 2, 1) := by decide +kernel
theorem dL_law_297 : decode cL_law 297 = .ok (.aload_n 0, 1) := by decide +kernel
theorem dL_law_298 : decode cL_law 298 = .ok (.iload_n 3, 1) := by decide +kernel
theorem dL_law_299 : decode cL_law 299 = .ok (.iconst 1, 1) := by decide +kernel
theorem dL_law_300 : decode cL_law 300 = .ok (.iadd, 1) := by decide +kernel
theorem dL_law_301 : decode cL_law 301 = .ok (.iaload, 1) := by decide +kernel
theorem dL_law_302 : decode cL_law 302 = .ok (.aload_n 0, 1) := by decide +kernel
theorem dL_law_303 : decode cL_law 303 = .ok (.iload_n 3, 1) := by decide +kernel
theorem dL_law_304 : decode cL_law 304 = .ok (.iconst 2, 1) := by decide +kernel
theorem dL_law_305 : decode cL_law 305 = .ok (.iadd, 1) := by decide +kernel
theorem dL_law_306 : decode cL_law 306 = .ok (.iaload, 1) := by decide +kernel
theorem dL_law_307 : decode cL_law 307 = .ok (.aload_n 0, 1) := by decide +kernel
theorem dL_law_308 : decode cL_law 308 = .ok (.iload_n 3, 1) := by decide +kernel
theorem dL_law_309 : decode cL_law 309 = .ok (.iconst 3, 1) := by decide +kernel
theorem dL_law_310 : decode cL_law 310 = .ok (.iadd, 1) := by decide +kernel
theorem dL_law_311 : decode cL_law 311 = .ok (.iaload, 1) := by decide +kernel
theorem dL_law_312 : decode cL_law 312 = .ok (.aload_n 0, 1) := by decide +kernel
theorem dL_law_313 : decode cL_law 313 = .ok (.iload_n 3, 1) := by decide +kernel
theorem dL_law_314 : decode cL_law 314 = .ok (.iconst 4, 1) := by decide +kernel
theorem dL_law_315 : decode cL_law 315 = .ok (.iadd, 1) := by decide +kernel
theorem dL_law_316 : decode cL_law 316 = .ok (.iaload, 1) := by decide +kernel
theorem dL_law_317 : decode cL_law 317 = .ok (.aload_n 0, 1) := by decide +kernel
theorem dL_law_318 : decode cL_law 318 = .ok (.iload_n 3, 1) := by decide +kernel
theorem dL_law_319 : decode cL_law 319 = .ok (.iconst 5, 1) := by decide +kernel
theorem dL_law_320 : decode cL_law 320 = .ok (.iadd, 1) := by decide +kernel
theorem dL_law_321 : decode cL_law 321 = .ok (.iaload, 1) := by decide +kernel
theorem dL_law_322 : decode cL_law 322 = .ok (.aload_n 0, 1) := by decide +kernel
theorem dL_law_323 : decode cL_law 323 = .ok (.iload_n 3, 1) := by decide +kernel
theorem dL_law_324 : decode cL_law 324 = .ok (.bipush 6, 2) := by decide +kernel
theorem dL_law_326 : decode cL_law 326 = .ok (.iadd, 1) := by decide +kernel
theorem dL_law_327 : decode cL_law 327 = .ok (.iaload, 1) := by decide +kernel
theorem dL_law_328 : decode cL_law 328 = .ok (.invokevirtual 31, 3) := by decide +kernel
theorem dL_law_331 : decode cL_law 331 = .ok (.if_icmp .eq 571, 3) := by decide +kernel
theorem dL_law_334 : decode cL_law 334 = .ok (.iconst 0, 1) := by decide +kernel
theorem dL_law_335 : decode cL_law 335 = .ok (.ireturn, 1) := by decide +kernel
theorem dL_law_336 : decode cL_law 336 = .ok (.aload_n 1, 1) := by decide +kernel
theorem dL_law_337 : decode cL_law 337 = .ok (.aload_n 0, 1) := by decide +kernel
theorem dL_law_338 : decode cL_law 338 = .ok (.iload_n 3, 1) := by decide +kernel
theorem dL_law_339 : decode cL_law 339 = .ok (.iconst 1, 1) := by decide +kernel
theorem dL_law_340 : decode cL_law 340 = .ok (.iadd, 1) := by decide +kernel
theorem dL_law_341 : decode cL_law 341 = .ok (.iaload, 1) := by decide +kernel
theorem dL_law_342 : decode cL_law 342 = .ok (.invokevirtual 32, 3) := by decide +kernel
theorem dL_law_345 : decode cL_law 345 = .ok (.aload_n 2, 1) := by decide +kernel
theorem dL_law_346 : decode cL_law 346 = .ok (.aload_n 0, 1) := by decide +kernel
theorem dL_law_347 : decode cL_law 347 = .ok (.iload_n 3, 1) := by decide +kernel
theorem dL_law_348 : decode cL_law 348 = .ok (.iconst 1, 1) := by decide +kernel
theorem dL_law_349 : decode cL_law 349 = .ok (.iadd, 1) := by decide +kernel
theorem dL_law_350 : decode cL_law 350 = .ok (.iaload, 1) := by decide +kernel
theorem dL_law_351 : decode cL_law 351 = .ok (.invokevirtual 36, 3) := by decide +kernel
theorem dL_law_354 : decode cL_law 354 = .ok (.if_icmp .eq 548, 3) := by decide +kernel
theorem dL_law_357 : decode cL_law 357 = .ok (.iconst 0, 1) := by decide +kernel
theorem dL_law_358 : decode cL_law 358 = .ok (.ireturn, 1) := by decide +kernel
theorem dL_law_359 : decode cL_law 359 = .ok (.aload_n 1, 1) := by decide +kernel
theorem dL_law_360 : decode cL_law 360 = .ok (.aload_n 0, 1) := by decide +kernel
theorem dL_law_361 : decode cL_law 361 = .ok (.iload_n 3, 1) := by decide +kernel
theorem dL_law_362 : decode cL_law 362 = .ok (.iconst 1, 1) := by decide +kernel
theorem dL_law_363 : decode cL_law 363 = .ok (.iadd, 1) := by decide +kernel
theorem dL_law_364 : decode cL_law 364 = .ok (.iaload, 1) := by decide +kernel
theorem dL_law_365 : decode cL_law 365 = .ok (.aload_n 0, 1) := by decide +kernel
theorem dL_law_366 : decode cL_law 366 = .ok (.iload_n 3, 1) := by decide +kernel
theorem dL_law_367 : decode cL_law 367 = .ok (.iconst 2, 1) := by decide +kernel
theorem dL_law_368 : decode cL_law 368 = .ok (.iadd, 1) := by decide +kernel
theorem dL_law_369 : decode cL_law 369 = .ok (.iaload, 1) := by decide +kernel
theorem dL_law_370 : decode cL_law 370 = .ok (.invokevirtual 37, 3) := by decide +kernel
theorem dL_law_373 : decode cL_law 373 = .ok (.aload_n 2, 1) := by decide +kernel
theorem dL_law_374 : decode cL_law 374 = .ok (.aload_n 0, 1) := by decide +kernel
theorem dL_law_375 : decode cL_law 375 = .ok (.iload_n 3, 1) := by decide +kernel
theorem dL_law_376 : decode cL_law 376 = .ok (.iconst 1, 1) := by decide +kernel
theorem dL_law_377 : decode cL_law 377 = .ok (.iadd, 1) := by decide +kernel
theorem dL_law_378 : decode cL_law 378 = .ok (.iaload, 1) := by decide +kernel
theorem dL_law_379 : decode cL_law 379 = .ok (.aload_n 0, 1) := by decide +kernel
theorem dL_law_380 : decode cL_law 380 = .ok (.iload_n 3, 1) := by decide +kernel
theorem dL_law_381 : decode cL_law 381 = .ok (.iconst 2, 1) := by decide +kernel
theorem dL_law_382 : decode cL_law 382 = .ok (.iadd, 1) := by decide +kernel
theorem dL_law_383 : decode cL_law 383 = .ok (.iaload, 1) := by decide +kernel
theorem dL_law_384 : decode cL_law 384 = .ok (.invokevirtual 40, 3) := by decide +kernel
theorem dL_law_387 : decode cL_law 387 = .ok (.if_icmp .eq 515, 3) := by decide +kernel
theorem dL_law_390 : decode cL_law 390 = .ok (.iconst 0, 1) := by decide +kernel
theorem dL_law_391 : decode cL_law 391 = .ok (.ireturn, 1) := by decide +kernel
theorem dL_law_392 : decode cL_law 392 = .ok (.aload_n 1, 1) := by decide +kernel
theorem dL_law_393 : decode cL_law 393 = .ok (.invokevirtual 41, 3) := by decide +kernel
theorem dL_law_396 : decode cL_law 396 = .ok (.aload_n 2, 1) := by decide +kernel
theorem dL_law_397 : decode cL_law 397 = .ok (.invokevirtual 45, 3) := by decide +kernel
theorem dL_law_400 : decode cL_law 400 = .ok (.if_icmp .eq 502, 3) := by decide +kernel
theorem dL_law_403 : decode cL_law 403 = .ok (.iconst 0, 1) := by decide +kernel
theorem dL_law_404 : decode cL_law 404 = .ok (.ireturn, 1) := by decide +kernel
theorem dL_law_405 : decode cL_law 405 = .ok (.aload_n 1, 1) := by decide +kernel
theorem dL_law_406 : decode cL_law 406 = .ok (.aload_n 0, 1) := by decide +kernel
theorem dL_law_407 : decode cL_law 407 = .ok (.iload_n 3, 1) := by decide +kernel
theorem dL_law_408 : decode cL_law 408 = .ok (.iconst 1, 1) := by decide +kernel
theorem dL_law_409 : decode cL_law 409 = .ok (.iadd, 1) := by decide +kernel
theorem dL_law_410 : decode cL_law 410 = .ok (.iaload, 1) := by decide +kernel
theorem dL_law_411 : decode cL_law 411 = .ok (.invokevirtual 46, 3) := by decide +kernel
theorem dL_law_414 : decode cL_law 414 = .ok (.aload_n 2, 1) := by decide +kernel
theorem dL_law_415 : decode cL_law 415 = .ok (.aload_n 0, 1) := by decide +kernel
theorem dL_law_416 : decode cL_law 416 = .ok (.iload_n 3, 1) := by decide +kernel
theorem dL_law_417 : decode cL_law 417 = .ok (.iconst 1, 1) := by decide +kernel
theorem dL_law_418 : decode cL_law 418 = .ok (.iadd, 1) := by decide +kernel
theorem dL_law_419 : decode cL_law 419 = .ok (.iaload, 1) := by decide +kernel
theorem dL_law_420 : decode cL_law 420 = .ok (.invokevirtual 49, 3) := by decide +kernel
theorem dL_law_423 : decode cL_law 423 = .ok (.if_icmp .eq 479, 3) := by decide +kernel
theorem dL_law_426 : decode cL_law 426 = .ok (.iconst 0, 1) := by decide +kernel
theorem dL_law_427 : decode cL_law 427 = .ok (.ireturn, 1) := by decide +kernel
theorem dL_law_428 : decode cL_law 428 = .ok (.aload_n 1, 1) := by decide +kernel
theorem dL_law_429 : decode cL_law 429 = .ok (.aload_n 0, 1) := by decide +kernel
theorem dL_law_430 : decode cL_law 430 = .ok (.iload_n 3, 1) := by decide +kernel
theorem dL_law_431 : decode cL_law 431 = .ok (.iconst 1, 1) := by decide +kernel
theorem dL_law_432 : decode cL_law 432 = .ok (.iadd, 1) := by decide +kernel
theorem dL_law_433 : decode cL_law 433 = .ok (.iaload, 1) := by decide +kernel
theorem dL_law_434 : decode cL_law 434 = .ok (.aload_n 0, 1) := by decide +kernel
theorem dL_law_435 : decode cL_law 435 = .ok (.iload_n 3, 1) := by decide +kernel
theorem dL_law_436 : decode cL_law 436 = .ok (.iconst 2, 1) := by decide +kernel
theorem dL_law_437 : decode cL_law 437 = .ok (.iadd, 1) := by decide +kernel
theorem dL_law_438 : decode cL_law 438 = .ok (.iaload, 1) := by decide +kernel
theorem dL_law_439 : decode cL_law 439 = .ok (.invokevirtual 50, 3) := by decide +kernel
theorem dL_law_442 : decode cL_law 442 = .ok (.aload_n 2, 1) := by decide +kernel
theorem dL_law_443 : decode cL_law 443 = .ok (.aload_n 0, 1) := by decide +kernel
theorem dL_law_444 : decode cL_law 444 = .ok (.iload_n 3, 1) := by decide +kernel
theorem dL_law_445 : decode cL_law 445 = .ok (.iconst 1, 1) := by decide +kernel
theorem dL_law_446 : decode cL_law 446 = .ok (.iadd, 1) := by decide +kernel
theorem dL_law_447 : decode cL_law 447 = .ok (.iaload, 1) := by decide +kernel
theorem dL_law_448 : decode cL_law 448 = .ok (.aload_n 0, 1) := by decide +kernel
theorem dL_law_449 : decode cL_law 449 = .ok (.iload_n 3, 1) := by decide +kernel
theorem dL_law_450 : decode cL_law 450 = .ok (.iconst 2, 1) := by decide +kernel
theorem dL_law_451 : decode cL_law 451 = .ok (.iadd, 1) := by decide +kernel
theorem dL_law_452 : decode cL_law 452 = .ok (.iaload, 1) := by decide +kernel
theorem dL_law_453 : decode cL_law 453 = .ok (.invokevirtual 53, 3) := by decide +kernel
theorem dL_law_456 : decode cL_law 456 = .ok (.if_icmp .eq 446, 3) := by decide +kernel
theorem dL_law_459 : decode cL_law 459 = .ok (.iconst 0, 1) := by decide +kernel
theorem dL_law_460 : decode cL_law 460 = .ok (.ireturn, 1) := by decide +kernel
theorem dL_law_461 : decode cL_law 461 = .ok (.aload_n 1, 1) := by decide +kernel
theorem dL_law_462 : decode cL_law 462 = .ok (.aload_n 0, 1) := by decide +kernel
theorem dL_law_463 : decode cL_law 463 = .ok (.iload_n 3, 1) := by decide +kernel
theorem dL_law_464 : decode cL_law 464 = .ok (.iconst 1, 1) := by decide +kernel
theorem dL_law_465 : decode cL_law 465 = .ok (.iadd, 1) := by decide +kernel
theorem dL_law_466 : decode cL_law 466 = .ok (.iaload, 1) := by decide +kernel
theorem dL_law_467 : decode cL_law 467 = .ok (.invokevirtual 54, 3) := by decide +kernel
theorem dL_law_470 : decode cL_law 470 = .ok (.aload_n 2, 1) := by decide +kernel
theorem dL_law_471 : decode cL_law 471 = .ok (.aload_n 0, 1) := by decide +kernel
theorem dL_law_472 : decode cL_law 472 = .ok (.iload_n 3, 1) := by decide +kernel
theorem dL_law_473 : decode cL_law 473 = .ok (.iconst 1, 1) := by decide +kernel
theorem dL_law_474 : decode cL_law 474 = .ok (.iadd, 1) := by decide +kernel
theorem dL_law_475 : decode cL_law 475 = .ok (.iaload, 1) := by decide +kernel
theorem dL_law_476 : decode cL_law 476 = .ok (.invokevirtual 57, 3) := by decide +kernel
theorem dL_law_479 : decode cL_law 479 = .ok (.if_icmp .eq 423, 3) := by decide +kernel
theorem dL_law_482 : decode cL_law 482 = .ok (.iconst 0, 1) := by decide +kernel
theorem dL_law_483 : decode cL_law 483 = .ok (.ireturn, 1) := by decide +kernel
theorem dL_law_484 : decode cL_law 484 = .ok (.aload_n 1, 1) := by decide +kernel
theorem dL_law_485 : decode cL_law 485 = .ok (.aload_n 0, 1) := by decide +kernel
theorem dL_law_486 : decode cL_law 486 = .ok (.iload_n 3, 1) := by decide +kernel
theorem dL_law_487 : decode cL_law 487 = .ok (.iconst 1, 1) := by decide +kernel
theorem dL_law_488 : decode cL_law 488 = .ok (.iadd, 1) := by decide +kernel
theorem dL_law_489 : decode cL_law 489 = .ok (.iaload, 1) := by decide +kernel
theorem dL_law_490 : decode cL_law 490 = .ok (.aload_n 0, 1) := by decide +kernel
theorem dL_law_491 : decode cL_law 491 = .ok (.iload_n 3, 1) := by decide +kernel
theorem dL_law_492 : decode cL_law 492 = .ok (.iconst 2, 1) := by decide +kernel
theorem dL_law_493 : decode cL_law 493 = .ok (.iadd, 1) := by decide +kernel
theorem dL_law_494 : decode cL_law 494 = .ok (.iaload, 1) := by decide +kernel
theorem dL_law_495 : decode cL_law 495 = .ok (.invokevirtual 58, 3) := by decide +kernel
theorem dL_law_498 : decode cL_law 498 = .ok (.aload_n 2, 1) := by decide +kernel
theorem dL_law_499 : decode cL_law 499 = .ok (.aload_n 0, 1) := by decide +kernel
theorem dL_law_500 : decode cL_law 500 = .ok (.iload_n 3, 1) := by decide +kernel
theorem dL_law_501 : decode cL_law 501 = .ok (.iconst 1, 1) := by decide +kernel
theorem dL_law_502 : decode cL_law 502 = .ok (.iadd, 1) := by decide +kernel
theorem dL_law_503 : decode cL_law 503 = .ok (.iaload, 1) := by decide +kernel
theorem dL_law_504 : decode cL_law 504 = .ok (.aload_n 0, 1) := by decide +kernel
theorem dL_law_505 : decode cL_law 505 = .ok (.iload_n 3, 1) := by decide +kernel
theorem dL_law_506 : decode cL_law 506 = .ok (.iconst 2, 1) := by decide +kernel
theorem dL_law_507 : decode cL_law 507 = .ok (.iadd, 1) := by decide +kernel
theorem dL_law_508 : decode cL_law 508 = .ok (.iaload, 1) := by decide +kernel
theorem dL_law_509 : decode cL_law 509 = .ok (.invokevirtual 61, 3) := by decide +kernel
theorem dL_law_512 : decode cL_law 512 = .ok (.if_icmp .eq 390, 3) := by decide +kernel
theorem dL_law_515 : decode cL_law 515 = .ok (.iconst 0, 1) := by decide +kernel
theorem dL_law_516 : decode cL_law 516 = .ok (.ireturn, 1) := by decide +kernel
theorem dL_law_517 : decode cL_law 517 = .ok (.aload_n 1, 1) := by decide +kernel
theorem dL_law_518 : decode cL_law 518 = .ok (.aload_n 0, 1) := by decide +kernel
theorem dL_law_519 : decode cL_law 519 = .ok (.iload_n 3, 1) := by decide +kernel
theorem dL_law_520 : decode cL_law 520 = .ok (.iconst 1, 1) := by decide +kernel
theorem dL_law_521 : decode cL_law 521 = .ok (.iadd, 1) := by decide +kernel
theorem dL_law_522 : decode cL_law 522 = .ok (.iaload, 1) := by decide +kernel
theorem dL_law_523 : decode cL_law 523 = .ok (.aload_n 0, 1) := by decide +kernel
theorem dL_law_524 : decode cL_law 524 = .ok (.iload_n 3, 1) := by decide +kernel
theorem dL_law_525 : decode cL_law 525 = .ok (.iconst 2, 1) := by decide +kernel
theorem dL_law_526 : decode cL_law 526 = .ok (.iadd, 1) := by decide +kernel
theorem dL_law_527 : decode cL_law 527 = .ok (.iaload, 1) := by decide +kernel
theorem dL_law_528 : decode cL_law 528 = .ok (.invokevirtual 62, 3) := by decide +kernel
theorem dL_law_531 : decode cL_law 531 = .ok (.aload_n 2, 1) := by decide +kernel
theorem dL_law_532 : decode cL_law 532 = .ok (.aload_n 0, 1) := by decide +kernel
theorem dL_law_533 : decode cL_law 533 = .ok (.iload_n 3, 1) := by decide +kernel
theorem dL_law_534 : decode cL_law 534 = .ok (.iconst 1, 1) := by decide +kernel
theorem dL_law_535 : decode cL_law 535 = .ok (.iadd, 1) := by decide +kernel
theorem dL_law_536 : decode cL_law 536 = .ok (.iaload, 1) := by decide +kernel
theorem dL_law_537 : decode cL_law 537 = .ok (.aload_n 0, 1) := by decide +kernel
theorem dL_law_538 : decode cL_law 538 = .ok (.iload_n 3, 1) := by decide +kernel
theorem dL_law_539 : decode cL_law 539 = .ok (.iconst 2, 1) := by decide +kernel
theorem dL_law_540 : decode cL_law 540 = .ok (.iadd, 1) := by decide +kernel
theorem dL_law_541 : decode cL_law 541 = .ok (.iaload, 1) := by decide +kernel
theorem dL_law_542 : decode cL_law 542 = .ok (.invokevirtual 65, 3) := by decide +kernel
theorem dL_law_545 : decode cL_law 545 = .ok (.if_icmp .eq 357, 3) := by decide +kernel
theorem dL_law_548 : decode cL_law 548 = .ok (.iconst 0, 1) := by decide +kernel
theorem dL_law_549 : decode cL_law 549 = .ok (.ireturn, 1) := by decide +kernel
theorem dL_law_550 : decode cL_law 550 = .ok (.aload_n 1, 1) := by decide +kernel
theorem dL_law_551 : decode cL_law 551 = .ok (.aload_n 0, 1) := by decide +kernel
theorem dL_law_552 : decode cL_law 552 = .ok (.iload_n 3, 1) := by decide +kernel
theorem dL_law_553 : decode cL_law 553 = .ok (.iconst 1, 1) := by decide +kernel
theorem dL_law_554 : decode cL_law 554 = .ok (.iadd, 1) := by decide +kernel
theorem dL_law_555 : decode cL_law 555 = .ok (.iaload, 1) := by decide +kernel
theorem dL_law_556 : decode cL_law 556 = .ok (.invokevirtual 66, 3) := by decide +kernel
theorem dL_law_559 : decode cL_law 559 = .ok (.aload_n 2, 1) := by decide +kernel
theorem dL_law_560 : decode cL_law 560 = .ok (.aload_n 0, 1) := by decide +kernel
theorem dL_law_561 : decode cL_law 561 = .ok (.iload_n 3, 1) := by decide +kernel
theorem dL_law_562 : decode cL_law 562 = .ok (.iconst 1, 1) := by decide +kernel
theorem dL_law_563 : decode cL_law 563 = .ok (.iadd, 1) := by decide +kernel
theorem dL_law_564 : decode cL_law 564 = .ok (.iaload, 1) := by decide +kernel
theorem dL_law_565 : decode cL_law 565 = .ok (.invokevirtual 69, 3) := by decide +kernel
theorem dL_law_568 : decode cL_law 568 = .ok (.if_icmp .eq 334, 3) := by decide +kernel
theorem dL_law_571 : decode cL_law 571 = .ok (.iconst 0, 1) := by decide +kernel
theorem dL_law_572 : decode cL_law 572 = .ok (.ireturn, 1) := by decide +kernel
theorem dL_law_573 : decode cL_law 573 = .ok (.aload_n 1, 1) := by decide +kernel
theorem dL_law_574 : decode cL_law 574 = .ok (.aload_n 0, 1) := by decide +kernel
theorem dL_law_575 : decode cL_law 575 = .ok (.iload_n 3, 1) := by decide +kernel
theorem dL_law_576 : decode cL_law 576 = .ok (.iconst 1, 1) := by decide +kernel
theorem dL_law_577 : decode cL_law 577 = .ok (.iadd, 1) := by decide +kernel
theorem dL_law_578 : decode cL_law 578 = .ok (.iaload, 1) := by decide +kernel
theorem dL_law_579 : decode cL_law 579 = .ok (.aload_n 0, 1) := by decide +kernel
theorem dL_law_580 : decode cL_law 580 = .ok (.iload_n 3, 1) := by decide +kernel
theorem dL_law_581 : decode cL_law 581 = .ok (.iconst 2, 1) := by decide +kernel
theorem dL_law_582 : decode cL_law 582 = .ok (.iadd, 1) := by decide +kernel
theorem dL_law_583 : decode cL_law 583 = .ok (.iaload, 1) := by decide +kernel
theorem dL_law_584 : decode cL_law 584 = .ok (.invokevirtual 70, 3) := by decide +kernel
theorem dL_law_587 : decode cL_law 587 = .ok (.aload_n 2, 1) := by decide +kernel
theorem dL_law_588 : decode cL_law 588 = .ok (.aload_n 0, 1) := by decide +kernel
theorem dL_law_589 : decode cL_law 589 = .ok (.iload_n 3, 1) := by decide +kernel
theorem dL_law_590 : decode cL_law 590 = .ok (.iconst 1, 1) := by decide +kernel
theorem dL_law_591 : decode cL_law 591 = .ok (.iadd, 1) := by decide +kernel
theorem dL_law_592 : decode cL_law 592 = .ok (.iaload, 1) := by decide +kernel
theorem dL_law_593 : decode cL_law 593 = .ok (.aload_n 0, 1) := by decide +kernel
theorem dL_law_594 : decode cL_law 594 = .ok (.iload_n 3, 1) := by decide +kernel
theorem dL_law_595 : decode cL_law 595 = .ok (.iconst 2, 1) := by decide +kernel
theorem dL_law_596 : decode cL_law 596 = .ok (.iadd, 1) := by decide +kernel
theorem dL_law_597 : decode cL_law 597 = .ok (.iaload, 1) := by decide +kernel
theorem dL_law_598 : decode cL_law 598 = .ok (.invokevirtual 73, 3) := by decide +kernel
theorem dL_law_601 : decode cL_law 601 = .ok (.if_icmp .eq 301, 3) := by decide +kernel
theorem dL_law_604 : decode cL_law 604 = .ok (.iconst 0, 1) := by decide +kernel
theorem dL_law_605 : decode cL_law 605 = .ok (.ireturn, 1) := by decide +kernel
theorem dL_law_606 : decode cL_law 606 = .ok (.aload_n 1, 1) := by decide +kernel
theorem dL_law_607 : decode cL_law 607 = .ok (.aload_n 0, 1) := by decide +kernel
theorem dL_law_608 : decode cL_law 608 = .ok (.iload_n 3, 1) := by decide +kernel
theorem dL_law_609 : decode cL_law 609 = .ok (.iconst 1, 1) := by decide +kernel
theorem dL_law_610 : decode cL_law 610 = .ok (.iadd, 1) := by decide +kernel
theorem dL_law_611 : decode cL_law 611 = .ok (.iaload, 1) := by decide +kernel
theorem dL_law_612 : decode cL_law 612 = .ok (.aload_n 0, 1) := by decide +kernel
theorem dL_law_613 : decode cL_law 613 = .ok (.iload_n 3, 1) := by decide +kernel
theorem dL_law_614 : decode cL_law 614 = .ok (.iconst 2, 1) := by decide +kernel
theorem dL_law_615 : decode cL_law 615 = .ok (.iadd, 1) := by decide +kernel
theorem dL_law_616 : decode cL_law 616 = .ok (.iaload, 1) := by decide +kernel
theorem dL_law_617 : decode cL_law 617 = .ok (.invokevirtual 74, 3) := by decide +kernel
theorem dL_law_620 : decode cL_law 620 = .ok (.aload_n 2, 1) := by decide +kernel
theorem dL_law_621 : decode cL_law 621 = .ok (.aload_n 0, 1) := by decide +kernel
theorem dL_law_622 : decode cL_law 622 = .ok (.iload_n 3, 1) := by decide +kernel
theorem dL_law_623 : decode cL_law 623 = .ok (.iconst 1, 1) := by decide +kernel
theorem dL_law_624 : decode cL_law 624 = .ok (.iadd, 1) := by decide +kernel
theorem dL_law_625 : decode cL_law 625 = .ok (.iaload, 1) := by decide +kernel
theorem dL_law_626 : decode cL_law 626 = .ok (.aload_n 0, 1) := by decide +kernel
theorem dL_law_627 : decode cL_law 627 = .ok (.iload_n 3, 1) := by decide +kernel
theorem dL_law_628 : decode cL_law 628 = .ok (.iconst 2, 1) := by decide +kernel
theorem dL_law_629 : decode cL_law 629 = .ok (.iadd, 1) := by decide +kernel
theorem dL_law_630 : decode cL_law 630 = .ok (.iaload, 1) := by decide +kernel
theorem dL_law_631 : decode cL_law 631 = .ok (.invokevirtual 77, 3) := by decide +kernel
theorem dL_law_634 : decode cL_law 634 = .ok (.if_icmp .eq 268, 3) := by decide +kernel
theorem dL_law_637 : decode cL_law 637 = .ok (.iconst 0, 1) := by decide +kernel
theorem dL_law_638 : decode cL_law 638 = .ok (.ireturn, 1) := by decide +kernel
theorem dL_law_639 : decode cL_law 639 = .ok (.aload_n 1, 1) := by decide +kernel
theorem dL_law_640 : decode cL_law 640 = .ok (.aload_n 0, 1) := by decide +kernel
theorem dL_law_641 : decode cL_law 641 = .ok (.iload_n 3, 1) := by decide +kernel
theorem dL_law_642 : decode cL_law 642 = .ok (.iconst 1, 1) := by decide +kernel
theorem dL_law_643 : decode cL_law 643 = .ok (.iadd, 1) := by decide +kernel
theorem dL_law_644 : decode cL_law 644 = .ok (.iaload, 1) := by decide +kernel
theorem dL_law_645 : decode cL_law 645 = .ok (.aload_n 0, 1) := by decide +kernel
theorem dL_law_646 : decode cL_law 646 = .ok (.iload_n 3, 1) := by decide +kernel
theorem dL_law_647 : decode cL_law 647 = .ok (.iconst 2, 1) := by decide +kernel
theorem dL_law_648 : decode cL_law 648 = .ok (.iadd, 1) := by decide +kernel
theorem dL_law_649 : decode cL_law 649 = .ok (.iaload, 1) := by decide +kernel
theorem dL_law_650 : decode cL_law 650 = .ok (.invokevirtual 78, 3) := by decide +kernel
theorem dL_law_653 : decode cL_law 653 = .ok (.aload_n 2, 1) := by decide +kernel
theorem dL_law_654 : decode cL_law 654 = .ok (.aload_n 0, 1) := by decide +kernel
theorem dL_law_655 : decode cL_law 655 = .ok (.iload_n 3, 1) := by decide +kernel
theorem dL_law_656 : decode cL_law 656 = .ok (.iconst 1, 1) := by decide +kernel
theorem dL_law_657 : decode cL_law 657 = .ok (.iadd, 1) := by decide +kernel
theorem dL_law_658 : decode cL_law 658 = .ok (.iaload, 1) := by decide +kernel
theorem dL_law_659 : decode cL_law 659 = .ok (.aload_n 0, 1) := by decide +kernel
theorem dL_law_660 : decode cL_law 660 = .ok (.iload_n 3, 1) := by decide +kernel
theorem dL_law_661 : decode cL_law 661 = .ok (.iconst 2, 1) := by decide +kernel
theorem dL_law_662 : decode cL_law 662 = .ok (.iadd, 1) := by decide +kernel
theorem dL_law_663 : decode cL_law 663 = .ok (.iaload, 1) := by decide +kernel
theorem dL_law_664 : decode cL_law 664 = .ok (.invokevirtual 81, 3) := by decide +kernel
theorem dL_law_667 : decode cL_law 667 = .ok (.if_icmp .eq 235, 3) := by decide +kernel
theorem dL_law_670 : decode cL_law 670 = .ok (.iconst 0, 1) := by decide +kernel
theorem dL_law_671 : decode cL_law 671 = .ok (.ireturn, 1) := by decide +kernel
theorem dL_law_672 : decode cL_law 672 = .ok (.aload_n 1, 1) := by decide +kernel
theorem dL_law_673 : decode cL_law 673 = .ok (.aload_n 0, 1) := by decide +kernel
theorem dL_law_674 : decode cL_law 674 = .ok (.iload_n 3, 1) := by decide +kernel
theorem dL_law_675 : decode cL_law 675 = .ok (.iconst 1, 1) := by decide +kernel
theorem dL_law_676 : decode cL_law 676 = .ok (.iadd, 1) := by decide +kernel
theorem dL_law_677 : decode cL_law 677 = .ok (.iaload, 1) := by decide +kernel
theorem dL_law_678 : decode cL_law 678 = .ok (.aload_n 0, 1) := by decide +kernel
theorem dL_law_679 : decode cL_law 679 = .ok (.iload_n 3, 1) := by decide +kernel
theorem dL_law_680 : decode cL_law 680 = .ok (.iconst 2, 1) := by decide +kernel
theorem dL_law_681 : decode cL_law 681 = .ok (.iadd, 1) := by decide +kernel
theorem dL_law_682 : decode cL_law 682 = .ok (.iaload, 1) := by decide +kernel
theorem dL_law_683 : decode cL_law 683 = .ok (.aload_n 0, 1) := by decide +kernel
theorem dL_law_684 : decode cL_law 684 = .ok (.iload_n 3, 1) := by decide +kernel
theorem dL_law_685 : decode cL_law 685 = .ok (.iconst 3, 1) := by decide +kernel
theorem dL_law_686 : decode cL_law 686 = .ok (.iadd, 1) := by decide +kernel
theorem dL_law_687 : decode cL_law 687 = .ok (.iaload, 1) := by decide +kernel
theorem dL_law_688 : decode cL_law 688 = .ok (.invokevirtual 82, 3) := by decide +kernel
theorem dL_law_691 : decode cL_law 691 = .ok (.aload_n 2, 1) := by decide +kernel
theorem dL_law_692 : decode cL_law 692 = .ok (.aload_n 0, 1) := by decide +kernel
theorem dL_law_693 : decode cL_law 693 = .ok (.iload_n 3, 1) := by decide +kernel
theorem dL_law_694 : decode cL_law 694 = .ok (.iconst 1, 1) := by decide +kernel
theorem dL_law_695 : decode cL_law 695 = .ok (.iadd, 1) := by decide +kernel
theorem dL_law_696 : decode cL_law 696 = .ok (.iaload, 1) := by decide +kernel
theorem dL_law_697 : decode cL_law 697 = .ok (.aload_n 0, 1) := by decide +kernel
theorem dL_law_698 : decode cL_law 698 = .ok (.iload_n 3, 1) := by decide +kernel
theorem dL_law_699 : decode cL_law 699 = .ok (.iconst 2, 1) := by decide +kernel
theorem dL_law_700 : decode cL_law 700 = .ok (.iadd, 1) := by decide +kernel
theorem dL_law_701 : decode cL_law 701 = .ok (.iaload, 1) := by decide +kernel
theorem dL_law_702 : decode cL_law 702 = .ok (.aload_n 0, 1) := by decide +kernel
theorem dL_law_703 : decode cL_law 703 = .ok (.iload_n 3, 1) := by decide +kernel
theorem dL_law_704 : decode cL_law 704 = .ok (.iconst 3, 1) := by decide +kernel
theorem dL_law_705 : decode cL_law 705 = .ok (.iadd, 1) := by decide +kernel
theorem dL_law_706 : decode cL_law 706 = .ok (.iaload, 1) := by decide +kernel
theorem dL_law_707 : decode cL_law 707 = .ok (.invokevirtual 85, 3) := by decide +kernel
theorem dL_law_710 : decode cL_law 710 = .ok (.if_icmp .eq 192, 3) := by decide +kernel
theorem dL_law_713 : decode cL_law 713 = .ok (.iconst 0, 1) := by decide +kernel
theorem dL_law_714 : decode cL_law 714 = .ok (.ireturn, 1) := by decide +kernel
theorem dL_law_715 : decode cL_law 715 = .ok (.aload_n 1, 1) := by decide +kernel
theorem dL_law_716 : decode cL_law 716 = .ok (.aload_n 0, 1) := by decide +kernel
theorem dL_law_717 : decode cL_law 717 = .ok (.iload_n 3, 1) := by decide +kernel
theorem dL_law_718 : decode cL_law 718 = .ok (.iconst 1, 1) := by decide +kernel
theorem dL_law_719 : decode cL_law 719 = .ok (.iadd, 1) := by decide +kernel
theorem dL_law_720 : decode cL_law 720 = .ok (.iaload, 1) := by decide +kernel
theorem dL_law_721 : decode cL_law 721 = .ok (.aload_n 0, 1) := by decide +kernel
theorem dL_law_722 : decode cL_law 722 = .ok (.iload_n 3, 1) := by decide +kernel
theorem dL_law_723 : decode cL_law 723 = .ok (.iconst 2, 1) := by decide +kernel
theorem dL_law_724 : decode cL_law 724 = .ok (.iadd, 1) := by decide +kernel
theorem dL_law_725 : decode cL_law 725 = .ok (.iaload, 1) := by decide +kernel
theorem dL_law_726 : decode cL_law 726 = .ok (.invokevirtual 86, 3) := by decide +kernel
theorem dL_law_729 : decode cL_law 729 = .ok (.aload_n 2, 1) := by decide +kernel
theorem dL_law_730 : decode cL_law 730 = .ok (.aload_n 0, 1) := by decide +kernel
theorem dL_law_731 : decode cL_law 731 = .ok (.iload_n 3, 1) := by decide +kernel
theorem dL_law_732 : decode cL_law 732 = .ok (.iconst 1, 1) := by decide +kernel
theorem dL_law_733 : decode cL_law 733 = .ok (.iadd, 1) := by decide +kernel
theorem dL_law_734 : decode cL_law 734 = .ok (.iaload, 1) := by decide +kernel
theorem dL_law_735 : decode cL_law 735 = .ok (.aload_n 0, 1) := by decide +kernel
theorem dL_law_736 : decode cL_law 736 = .ok (.iload_n 3, 1) := by decide +kernel
theorem dL_law_737 : decode cL_law 737 = .ok (.iconst 2, 1) := by decide +kernel
theorem dL_law_738 : decode cL_law 738 = .ok (.iadd, 1) := by decide +kernel
theorem dL_law_739 : decode cL_law 739 = .ok (.iaload, 1) := by decide +kernel
theorem dL_law_740 : decode cL_law 740 = .ok (.invokevirtual 89, 3) := by decide +kernel
theorem dL_law_743 : decode cL_law 743 = .ok (.if_icmp .eq 159, 3) := by decide +kernel
theorem dL_law_746 : decode cL_law 746 = .ok (.iconst 0, 1) := by decide +kernel
theorem dL_law_747 : decode cL_law 747 = .ok (.ireturn, 1) := by decide +kernel
theorem dL_law_748 : decode cL_law 748 = .ok (.aload_n 1, 1) := by decide +kernel
theorem dL_law_749 : decode cL_law 749 = .ok (.aload_n 0, 1) := by decide +kernel
theorem dL_law_750 : decode cL_law 750 = .ok (.iload_n 3, 1) := by decide +kernel
theorem dL_law_751 : decode cL_law 751 = .ok (.iconst 1, 1) := by decide +kernel
theorem dL_law_752 : decode cL_law 752 = .ok (.iadd, 1) := by decide +kernel
theorem dL_law_753 : decode cL_law 753 = .ok (.iaload, 1) := by decide +kernel
theorem dL_law_754 : decode cL_law 754 = .ok (.invokevirtual 90, 3) := by decide +kernel
theorem dL_law_757 : decode cL_law 757 = .ok (.aload_n 2, 1) := by decide +kernel
theorem dL_law_758 : decode cL_law 758 = .ok (.aload_n 0, 1) := by decide +kernel
theorem dL_law_759 : decode cL_law 759 = .ok (.iload_n 3, 1) := by decide +kernel
theorem dL_law_760 : decode cL_law 760 = .ok (.iconst 1, 1) := by decide +kernel
theorem dL_law_761 : decode cL_law 761 = .ok (.iadd, 1) := by decide +kernel
theorem dL_law_762 : decode cL_law 762 = .ok (.iaload, 1) := by decide +kernel
theorem dL_law_763 : decode cL_law 763 = .ok (.invokevirtual 93, 3) := by decide +kernel
theorem dL_law_766 : decode cL_law 766 = .ok (.if_icmp .eq 136, 3) := by decide +kernel
theorem dL_law_769 : decode cL_law 769 = .ok (.iconst 0, 1) := by decide +kernel
theorem dL_law_770 : decode cL_law 770 = .ok (.ireturn, 1) := by decide +kernel
theorem dL_law_771 : decode cL_law 771 = .ok (.aload_n 1, 1) := by decide +kernel
theorem dL_law_772 : decode cL_law 772 = .ok (.aload_n 0, 1) := by decide +kernel
theorem dL_law_773 : decode cL_law 773 = .ok (.iload_n 3, 1) := by decide +kernel
theorem dL_law_774 : decode cL_law 774 = .ok (.iconst 1, 1) := by decide +kernel
theorem dL_law_775 : decode cL_law 775 = .ok (.iadd, 1) := by decide +kernel
theorem dL_law_776 : decode cL_law 776 = .ok (.iaload, 1) := by decide +kernel
theorem dL_law_777 : decode cL_law 777 = .ok (.invokevirtual 94, 3) := by decide +kernel
theorem dL_law_780 : decode cL_law 780 = .ok (.aload_n 2, 1) := by decide +kernel
theorem dL_law_781 : decode cL_law 781 = .ok (.aload_n 0, 1) := by decide +kernel
theorem dL_law_782 : decode cL_law 782 = .ok (.iload_n 3, 1) := by decide +kernel
theorem dL_law_783 : decode cL_law 783 = .ok (.iconst 1, 1) := by decide +kernel
theorem dL_law_784 : decode cL_law 784 = .ok (.iadd, 1) := by decide +kernel
theorem dL_law_785 : decode cL_law 785 = .ok (.iaload, 1) := by decide +kernel
theorem dL_law_786 : decode cL_law 786 = .ok (.invokevirtual 97, 3) := by decide +kernel
theorem dL_law_789 : decode cL_law 789 = .ok (.if_icmp .eq 113, 3) := by decide +kernel
theorem dL_law_792 : decode cL_law 792 = .ok (.iconst 0, 1) := by decide +kernel
theorem dL_law_793 : decode cL_law 793 = .ok (.ireturn, 1) := by decide +kernel
theorem dL_law_794 : decode cL_law 794 = .ok (.aload_n 1, 1) := by decide +kernel
theorem dL_law_795 : decode cL_law 795 = .ok (.aload_n 0, 1) := by decide +kernel
theorem dL_law_796 : decode cL_law 796 = .ok (.iload_n 3, 1) := by decide +kernel
theorem dL_law_797 : decode cL_law 797 = .ok (.iconst 1, 1) := by decide +kernel
theorem dL_law_798 : decode cL_law 798 = .ok (.iadd, 1) := by decide +kernel
theorem dL_law_799 : decode cL_law 799 = .ok (.iaload, 1) := by decide +kernel
theorem dL_law_800 : decode cL_law 800 = .ok (.invokevirtual 98, 3) := by decide +kernel
theorem dL_law_803 : decode cL_law 803 = .ok (.aload_n 2, 1) := by decide +kernel
theorem dL_law_804 : decode cL_law 804 = .ok (.aload_n 0, 1) := by decide +kernel
theorem dL_law_805 : decode cL_law 805 = .ok (.iload_n 3, 1) := by decide +kernel
theorem dL_law_806 : decode cL_law 806 = .ok (.iconst 1, 1) := by decide +kernel
theorem dL_law_807 : decode cL_law 807 = .ok (.iadd, 1) := by decide +kernel
theorem dL_law_808 : decode cL_law 808 = .ok (.iaload, 1) := by decide +kernel
theorem dL_law_809 : decode cL_law 809 = .ok (.invokevirtual 101, 3) := by decide +kernel
theorem dL_law_812 : decode cL_law 812 = .ok (.if_icmp .eq 90, 3) := by decide +kernel
theorem dL_law_815 : decode cL_law 815 = .ok (.iconst 0, 1) := by decide +kernel
theorem dL_law_816 : decode cL_law 816 = .ok (.ireturn, 1) := by decide +kernel
theorem dL_law_817 : decode cL_law 817 = .ok (.aload_n 1, 1) := by decide +kernel
theorem dL_law_818 : decode cL_law 818 = .ok (.invokevirtual 102, 3) := by decide +kernel
theorem dL_law_821 : decode cL_law 821 = .ok (.aload_n 2, 1) := by decide +kernel
theorem dL_law_822 : decode cL_law 822 = .ok (.invokevirtual 105, 3) := by decide +kernel
theorem dL_law_825 : decode cL_law 825 = .ok (.if_icmp .eq 77, 3) := by decide +kernel
theorem dL_law_828 : decode cL_law 828 = .ok (.iconst 0, 1) := by decide +kernel
theorem dL_law_829 : decode cL_law 829 = .ok (.ireturn, 1) := by decide +kernel
theorem dL_law_830 : decode cL_law 830 = .ok (.aload_n 1, 1) := by decide +kernel
theorem dL_law_831 : decode cL_law 831 = .ok (.aload_n 0, 1) := by decide +kernel
theorem dL_law_832 : decode cL_law 832 = .ok (.iload_n 3, 1) := by decide +kernel
theorem dL_law_833 : decode cL_law 833 = .ok (.iconst 1, 1) := by decide +kernel
theorem dL_law_834 : decode cL_law 834 = .ok (.iadd, 1) := by decide +kernel
theorem dL_law_835 : decode cL_law 835 = .ok (.iaload, 1) := by decide +kernel
theorem dL_law_836 : decode cL_law 836 = .ok (.invokevirtual 106, 3) := by decide +kernel
theorem dL_law_839 : decode cL_law 839 = .ok (.aload_n 2, 1) := by decide +kernel
theorem dL_law_840 : decode cL_law 840 = .ok (.aload_n 0, 1) := by decide +kernel
theorem dL_law_841 : decode cL_law 841 = .ok (.iload_n 3, 1) := by decide +kernel
theorem dL_law_842 : decode cL_law 842 = .ok (.iconst 1, 1) := by decide +kernel
theorem dL_law_843 : decode cL_law 843 = .ok (.iadd, 1) := by decide +kernel
theorem dL_law_844 : decode cL_law 844 = .ok (.iaload, 1) := by decide +kernel
theorem dL_law_845 : decode cL_law 845 = .ok (.invokevirtual 109, 3) := by decide +kernel
theorem dL_law_848 : decode cL_law 848 = .ok (.if_icmp .eq 54, 3) := by decide +kernel
theorem dL_law_851 : decode cL_law 851 = .ok (.iconst 0, 1) := by decide +kernel
theorem dL_law_852 : decode cL_law 852 = .ok (.ireturn, 1) := by decide +kernel
theorem dL_law_853 : decode cL_law 853 = .ok (.aload_n 1, 1) := by decide +kernel
theorem dL_law_854 : decode cL_law 854 = .ok (.aload_n 0, 1) := by decide +kernel
theorem dL_law_855 : decode cL_law 855 = .ok (.iload_n 3, 1) := by decide +kernel
theorem dL_law_856 : decode cL_law 856 = .ok (.iconst 1, 1) := by decide +kernel
theorem dL_law_857 : decode cL_law 857 = .ok (.iadd, 1) := by decide +kernel
theorem dL_law_858 : decode cL_law 858 = .ok (.iaload, 1) := by decide +kernel
theorem dL_law_859 : decode cL_law 859 = .ok (.invokevirtual 110, 3) := by decide +kernel
theorem dL_law_862 : decode cL_law 862 = .ok (.aload_n 2, 1) := by decide +kernel
theorem dL_law_863 : decode cL_law 863 = .ok (.aload_n 0, 1) := by decide +kernel
theorem dL_law_864 : decode cL_law 864 = .ok (.iload_n 3, 1) := by decide +kernel
theorem dL_law_865 : decode cL_law 865 = .ok (.iconst 1, 1) := by decide +kernel
theorem dL_law_866 : decode cL_law 866 = .ok (.iadd, 1) := by decide +kernel
theorem dL_law_867 : decode cL_law 867 = .ok (.iaload, 1) := by decide +kernel
theorem dL_law_868 : decode cL_law 868 = .ok (.invokevirtual 113, 3) := by decide +kernel
theorem dL_law_871 : decode cL_law 871 = .ok (.if_icmp .eq 31, 3) := by decide +kernel
theorem dL_law_874 : decode cL_law 874 = .ok (.iconst 0, 1) := by decide +kernel
theorem dL_law_875 : decode cL_law 875 = .ok (.ireturn, 1) := by decide +kernel
theorem dL_law_876 : decode cL_law 876 = .ok (.aload_n 1, 1) := by decide +kernel
theorem dL_law_877 : decode cL_law 877 = .ok (.invokevirtual 114, 3) := by decide +kernel
theorem dL_law_880 : decode cL_law 880 = .ok (.aload_n 2, 1) := by decide +kernel
theorem dL_law_881 : decode cL_law 881 = .ok (.invokevirtual 117, 3) := by decide +kernel
theorem dL_law_884 : decode cL_law 884 = .ok (.if_icmp .eq 18, 3) := by decide +kernel
theorem dL_law_887 : decode cL_law 887 = .ok (.iconst 0, 1) := by decide +kernel
theorem dL_law_888 : decode cL_law 888 = .ok (.ireturn, 1) := by decide +kernel
theorem dL_law_889 : decode cL_law 889 = .ok (.aload_n 1, 1) := by decide +kernel
theorem dL_law_890 : decode cL_law 890 = .ok (.invokevirtual 118, 3) := by decide +kernel
theorem dL_law_893 : decode cL_law 893 = .ok (.aload_n 2, 1) := by decide +kernel
theorem dL_law_894 : decode cL_law 894 = .ok (.invokevirtual 121, 3) := by decide +kernel
theorem dL_law_897 : decode cL_law 897 = .ok (.if_icmp .eq 5, 3) := by decide +kernel
theorem dL_law_900 : decode cL_law 900 = .ok (.iconst 0, 1) := by decide +kernel
theorem dL_law_901 : decode cL_law 901 = .ok (.ireturn, 1) := by decide +kernel
theorem dL_law_902 : decode cL_law 902 = .ok (.iinc 3 7, 3) := by decide +kernel
theorem dL_law_905 : decode cL_law 905 = .ok (.goto (-887), 3) := by decide +kernel
theorem dL_law_908 : decode cL_law 908 = .ok (.iconst 1, 1) := by decide +kernel
theorem dL_law_909 : decode cL_law 909 = .ok (.ireturn, 1) := by decide +kernel
end
section
/-! ===== the tables' words, as facts about a state ===== -/
def isNst : Cond → Bool
  | .fieldLinkNest .. => true
  | .methodLinkNest .. => true
  | _ => false
def zw (w : Cond) : Prop := w ∈ lw_tbl ∧ goodWord w = true
def zwn (w : Cond) : Prop := w ∈ lw_tbl ∧ isNst w = true
def zTab (s : State) : Prop := (∀ w, zw w → ∀ a : Array Value, w.before a s = true) ∧ ∀ w, zwn w → va_Nw w s
theorem zTab.warm {s U : State} (hW : s.WarmedH U.vm) (h : zTab s) : zTab U := by
  refine ⟨fun w hw a => word_at hW (good_of_word hw.2) (h.1 w hw a), fun w hw => ?_⟩
  have h1 := h.2 w hw
  obtain ⟨-, h2⟩ := hw
  cases w <;> first | exact va_Nw.warmF hW h1 | exact va_Nw.warmM hW h1 | (exact absurd h2 (by simp [isNst]))
/-! ===== the memory: int fields, int rows, rows of references ===== -/
abbrev zM : Type := (Nat → Nat → Int32) × (Nat → Nat → Int32) × (Nat → Nat → Nat)
abbrev zSt : Type := va_G × (Nat → ClassId) × List Nat × (Nat → Nat) × (Nat → Nat → Nat) × (Nat → Nat)
def zD (P : zSt) : va_G := P.1
def zcy (P : zSt) : Nat → ClassId := P.2.1
def zL (P : zSt) : List Nat := P.2.2.1
def zK (P : zSt) : Nat → Nat := P.2.2.2.1
def zR (P : zSt) : Nat → Nat → Nat := P.2.2.2.2.1
def zlen (P : zSt) : Nat → Nat := P.2.2.2.2.2
def zu {α : Type} (f : Nat → Nat → α) (a i : Nat) (v : α) : Nat → Nat → α := fun b j => if b = a ∧ j = i then v else f b j
def zf (M : zM) (f a : Nat) : Int32 := M.1 f a
def za (M : zM) (a i : Nat) : Int32 := M.2.1 a i
def zr (M : zM) (a i : Nat) : Nat := M.2.2 a i
def zfp (M : zM) (f a : Nat) (v : Int32) : zM := (zu M.1 f a v, M.2)
def zap (M : zM) (a i : Nat) (v : Int32) : zM := (M.1, zu M.2.1 a i v, M.2.2)
def zrp (M : zM) (a i : Nat) (b : Nat) : zM := (M.1, M.2.1, zu M.2.2 a i b)
def zl {α β : Type} (x : α) (k : α → β) : β := k x
def zb (x : Option (Int32 × zM)) (k : Int32 → zM → Option (Int32 × zM)) : Option (Int32 × zM) := match x with
  | none => none
  | some q => k q.1 q.2
def zin (i : Int32) (n : Nat) : Bool := decide (¬ (i < 0 ∨ n ≤ i.toNatClampNeg))
def zbo (v : Int32) : Bool := decide (v = 0 ∨ v = 1)
/-- the fields of a kind: none an int, some k a reference to kind k -/
def zft : Nat → List (Option Nat) := fun k => match k with
  | 0 => List.replicate 14 none
  | 1 => [some 13, none, some 15, some 14, none, none, none, none, none, none, none, none, none, none, none, some 8]
  | 2 => [some 12, some 12, some 12, some 12, some 12, none, none]
  | 3 => [some 7, none, none, some 16, none, none, none]
  | 4 => [some 7, some 3, none]
  | 5 => [none, none, none, none, none, none, none, none, some 12, some 12]
  | 6 => [none, none, none, none, none]
  | 7 => [some 11, none]
  | 8 => [some 17, none]
  | 9 => [some 1, some 1, some 1, some 1, some 2, some 7, some 7, some 4, none]
  | 10 => [some 12, some 12, some 12, some 12, none, none, some 12, none, some 12, some 12, none, some 12, none, none, none, some 12, none, some 12]
  | _ => []
/-- the elements of a kind of arrays -/
def zek : Nat → Option Nat := fun k => match k with
  | 13 => some 0
  | 14 => some 3
  | 15 => some 5
  | 16 => some 6
  | 17 => some 12
  | _ => none
def zety : Nat → FieldType := fun k => match k with
  | 11 => .char
  | 12 => .int
  | 13 => .object "MeshRouter$Backend"
  | 14 => .object "MeshRouter$Rule"
  | 15 => .object "MeshRouter$Service"
  | 16 => .object "MeshRouter$Target"
  | _ => .array .int
def ztys (P : zSt) : List (ClassId × FieldType) := [(zcy P 11, zety 11), (zcy P 12, zety 12), (zcy P 13, zety 13), (zcy P 14, zety 14), (zcy P 15, zety 15), (zcy P 16, zety 16), (zcy P 17, zety 17)]
def zfv (P : zSt) (M : zM) (a k j : Nat) : Option Nat → Value := fun t => match t with
  | none => .int (zf M (20 * k + j) a)
  | some _ => .ref (zR P (20 * k + j) a)
def zfs (P : zSt) (M : zM) (a k : Nat) : List Value := (zft k).mapIdx (zfv P M a k)
def zcell (P : zSt) (M : zM) (a : Nat) : va_E :=
  if zK P a ≤ 10 then .inr (zK P a, zfs P M a (zK P a))
  else if zK P a ≤ 12 then .inl (zcy P (zK P a), zlen P a, .inl (za M a))
  else .inl (zcy P (zK P a), zlen P a, .inr (.inr (.inr (.inr (fun i => some (zr M a i))))))
def zT (P : zSt) (k a : Nat) : Prop := a ∈ zL P ∧ zK P a = k
/-- the references are of their kinds -/
def zWT (P : zSt) : Prop := ∀ a k j k', zT P k a → (zft k)[j]? = some (some k') → zT P k' (zR P (20 * k + j) a)
def zWM (P : zSt) (M : zM) : Prop := ∀ a k k' i, zT P k a → zek k = some k' → i < zlen P a → zT P k' (zr M a i)
def zOKP (P : zSt) : Prop := zWT P ∧ (zL P).Nodup
def zA (P : zSt) (sz : Nat) : Nat → Prop := fun q => q ∈ zL P ∨ sz ≤ q
def zW (P : zSt) (M : zM) (H : Heap) : Prop := va_P (zD P) vwCl (va_pl (zL P) (zcell P M)) H
theorem zD_of {P : zSt} {M : zM} {sz : Nat} (h : zOKP P) : va_D (zA P sz) (va_pl (zL P) (zcell P M)) := by
  have hz : ∀ (k : Nat) (q : Nat × va_E), (va_pl (zL P) (zcell P M))[k]? = some q → (zL P)[k]? = some q.1 := by
    intro k q hk
    unfold va_pl at hk
    rw [List.getElem?_map] at hk
    cases h9 : (zL P)[k]? with
    | none => rw [h9] at hk; cases hk
    | some x => rw [h9] at hk; cases hk; rfl
  refine ⟨fun i j p q hi hj hpq => ?_, fun k q hk => Or.inl (List.mem_of_getElem? (hz k q hk))⟩
  have h1 := hz i p hi
  have h2 := hz j q hj
  rw [hpq] at h1
  have hi9 := (List.getElem?_eq_some_iff.mp h1).1
  exact (List.getElem?_inj hi9 h.2).mp (h1.trans h2.symm)
theorem zpl_get {L : List Nat} {f : Nat → va_E} {a : Nat} (h : a ∈ L) : ∃ k : Nat, (va_pl L f)[k]? = some (a, f a) := va_pl_get (X := []) h
theorem zpl_set {A : Nat → Prop} {L : List Nat} {f g : Nat → va_E} {a k : Nat} {e : va_E} (hD : va_D A (va_pl L f)) (h : a ∈ L) (hk : (va_pl L f)[k]? = some (a, f a)) (hg : ∀ b, va_up f a e b = g b) : (va_pl L f).set k (a, e) = va_pl L g := by
  have h1 := va_pl_set (X := []) (e := e) hD h hk
  have h2 : va_up f a e = g := funext hg
  rw [h2] at h1
  exact h1
theorem zcell_o {P : zSt} {M : zM} {a k : Nat} (h : zK P a = k) (hk : k ≤ 10) : zcell P M a = .inr (k, zfs P M a k) := by
  subst h
  unfold zcell
  rw [if_pos hk]
theorem zcell_i {P : zSt} {M : zM} {a k : Nat} (h : zK P a = k) (hk : k = 11 ∨ k = 12) : zcell P M a = .inl (zcy P k, zlen P a, .inl (za M a)) := by
  subst h
  unfold zcell
  rw [if_neg (by omega), if_pos (by omega)]
theorem zcell_r {P : zSt} {M : zM} {a k : Nat} (h : zK P a = k) (hk : 13 ≤ k) : zcell P M a = .inl (zcy P k, zlen P a, .inr (.inr (.inr (.inr (fun i => some (zr M a i)))))) := by
  subst h
  unfold zcell
  rw [if_neg (by omega), if_neg (by omega)]
theorem zfs_get {P : zSt} {M : zM} {a k j : Nat} {t : Option Nat} (h : (zft k)[j]? = some t) : (zfs P M a k)[j]? = some (zfv P M a k j t) := by
  unfold zfs
  rw [List.getElem?_mapIdx, h]
  rfl
theorem zft_lt {k j : Nat} {t : Option Nat} (h : (zft k)[j]? = some t) : j < 20 := by
  have h1 := (List.getElem?_eq_some_iff.mp h).1
  have h2 : (zft k).length ≤ 20 := by
    unfold zft
    split <;> decide
  omega
theorem zcell_put {P : zSt} {M : zM} {a k j : Nat} {v : Int32} (h : zK P a = k) (hk : k ≤ 10) (hj : (zft k)[j]? = some none) (b : Nat) : va_up (zcell P M) a (.inr (k, (zfs P M a k).set j (.int v))) b = zcell P (zfp M (20 * k + j) a v) b := by
  unfold va_up
  by_cases hb : b = a
  · subst hb
    rw [if_pos rfl, zcell_o h hk]
    congr 2
    apply List.ext_getElem?
    intro i
    unfold zfs
    rw [List.getElem?_set, List.getElem?_mapIdx, List.getElem?_mapIdx]
    by_cases hi : j = i
    · subst hi
      rw [if_pos rfl, hj]
      have h1 := (List.getElem?_eq_some_iff.mp hj).1
      rw [if_pos (by rw [List.length_mapIdx]; exact h1)]
      simp [zfv, zf, zfp, zu]
    · rw [if_neg hi]
      cases hq : (zft k)[i]? with
      | none => rfl
      | some t =>
        cases t with
        | none =>
          have e : ¬ i = j := fun q => hi q.symm
          simp [zfv, zf, zfp, zu, e]
        | some k' => simp [zfv]
  · rw [if_neg hb]
    have e1 : ∀ f, zf (zfp M (20 * k + j) a v) f b = zf M f b := fun f => by simp [zf, zfp, zu, hb]
    have e2 : za (zfp M (20 * k + j) a v) b = za M b := rfl
    have e3 : ∀ i, zr (zfp M (20 * k + j) a v) b i = zr M b i := fun i => rfl
    unfold zcell
    have e4 : zfs P (zfp M (20 * k + j) a v) b (zK P b) = zfs P M b (zK P b) := by
      unfold zfs
      refine List.mapIdx_eq_mapIdx_iff.mpr ?_
      intro i hi
      generalize (zft (zK P b))[i] = t
      cases t with
      | none => simp [zfv, e1]
      | some _ => rfl
    rw [e4, e2]
    rfl
theorem zcell_aput {P : zSt} {M : zM} {a k i : Nat} {v : Int32} (h : zK P a = k) (hk : k = 11 ∨ k = 12) (b : Nat) : va_up (zcell P M) a (.inl (zcy P k, zlen P a, .inl (upd (za M a) i v))) b = zcell P (zap M a i v) b := by
  unfold va_up
  by_cases hb : b = a
  · subst hb
    rw [if_pos rfl, zcell_i h hk]
    congr 4
    funext j
    simp [upd, za, zap, zu]
  · rw [if_neg hb]
    have e2 : za (zap M a i v) b = za M b := by funext j; simp [za, zap, zu, hb]
    unfold zcell
    rw [e2]
    rfl
theorem zcell_rput {P : zSt} {M : zM} {a k i v : Nat} (h : zK P a = k) (hk : 13 ≤ k) (b : Nat) : va_up (zcell P M) a (.inl (zcy P k, zlen P a, .inr (.inr (.inr (.inr (va_up (fun i => some (zr M a i)) i (some v))))))) b = zcell P (zrp M a i v) b := by
  unfold va_up
  by_cases hb : b = a
  · subst hb
    rw [if_pos rfl, zcell_r h hk]
    congr 7
    funext j
    by_cases hj : j = i
    · simp [zr, zrp, zu, hj]
    · simp [zr, zrp, zu, hj]
  · rw [if_neg hb]
    have e2 : ∀ j, zr (zrp M a i v) b j = zr M b j := fun j => by simp [zr, zrp, zu, hb]
    unfold zcell
    simp only [e2]
    rfl
end
section
/-! ===== the run of a method: where it stands ===== -/
abbrev zC : Type := (Program × Launch × Env × Room × State × MethodId) × (Array Value × List Frame × Method × Code) × ((State → Prop) × (Int32 × zM))
def zs (G : zC) : State := G.1.2.2.2.2.1
def zmt (G : zC) : Method := G.2.1.2.2.1
def zcd (G : zC) : Code := G.2.1.2.2.2
def zWat (G : zC) (H : Heap) (locs : List Loc) (pc : Nat) (ls : Array Slot) (st : List Value) : Prop :=
  W G.1.1 G.1.2.1 G.1.2.2.1 G.1.2.2.2.1 G.1.2.2.2.2.1 G.1.2.2.2.2.2 G.2.1.1 G.2.1.2.1 G.2.1.2.2.1 G.2.1.2.2.2 H locs 0 0 G.2.2.1 (F0 G.1.2.2.2.2.2 pc ls st)
def zAt (P : zSt) (G : zC) (M : zM) (pc : Nat) (lv : List (Nat × Value)) (st : List Value) : Prop :=
  zWM P M → ∀ (H : Heap) (locs : List Loc) (ls : Array Slot), zW P M H → va_S (zA P (zs G).heap.size) (zs G).heap H locs → lv_has ls (zcd G).maxLocals lv → zWat G H locs pc ls st
def zG (P : zSt) (G : zC) (F : Option (Int32 × zM)) (M : zM) (pc : Nat) (lv : List (Nat × Value)) (st : List Value) : Prop := F = some G.2.2.2 → zAt P G M pc lv st
def zB (P : zSt) (u : zM) (t : State) : Prop := zWM P u ∧ zW P u t.heap
def zQ (ret : Option FieldType) (P : zSt) (sz : Nat) (res : Int32 × zM) : Array Value → State → Outcome → State → Prop := match ret with
  | none => va_Qv (fun u : zM => u = res.2) (zB P) (zA P sz)
  | some _ => va_Qi (fun (r : Int32) (u : zM) => r = res.1 ∧ u = res.2) (zB P) (zA P sz)
def zrm (fr lo : Nat) : Room := { frames := fr, cells := 0, slots := 0, locals := lo }
def zOK (P : zSt) (G : zC) (own : String) (cc : ByteArray) (nL fr lo : Nat) (ret : Option FieldType) : Prop :=
  (G.1.1.tables.exec = Jvm.exec ∧ (zcd G).code = cc ∧ (zcd G).maxLocals = nL ∧ (zs G).vm.findClass own = some G.1.2.2.2.2.2.cls ∧ (zmt G).locks = false ∧ (zmt G).sig.returnType = ret) ∧
  (va_K (zD P) vwCl (ztys P) (zs G) ∧ zTab (zs G) ∧ zOKP P) ∧ G.1.2.2.2.1 = zrm fr lo ∧ G.2.2.1 = MQ G.2.1.2.1 (zQ ret P (zs G).heap.size G.2.2.2) G.2.1.1 (zs G) 0 0 (zA P (zs G).heap.size)
def zPre (P : zSt) (sz : Nat) (M : zM) (U : State) : Prop := U.heap.size = sz ∧ zWM P M ∧ zW P M U.heap ∧ va_K (zD P) vwCl (ztys P) U ∧ zTab U
/-- a method's contract: what F says of the memory is what it does -/
def zMet (l : Launch) (P : zSt) (y : MethodName) (cc : ByteArray) (maxL fr lo : Nat) (ret : Option FieldType) (As : List Value) (F : zM → Option (Int32 × zM)) : Prop :=
  ∀ (sz : Nat) (M : zM) (res : Int32 × zM), F M = some res → Met l y [.code y cc maxL ret] (zrm fr lo) (va_Pc As (zPre P sz M)) (zQ ret P sz res) 0 0 (zA P sz)
theorem zPre_blind {P : zSt} {sz : Nat} {M : zM} {As : List Value} : FrameBlind (va_Pc As (zPre P sz M)) := by
  intro a U g mk h
  obtain ⟨h1, h2, h3, h4, h5, h6⟩ := h
  exact ⟨h1, h2, h3, h4, va_K.moved (u := U) (U := U.calling g mk a) (Vm.Alike.refl U.vm) h5, zTab.warm (s := U) (U := U.calling g mk a) (State.WarmedH.refl U) h6⟩
theorem zMet.of {l : Launch} {P : zSt} {y : MethodName} {cc : ByteArray} {maxL fr lo : Nat} {ret : Option FieldType} {As : List Value} {F : zM → Option (Int32 × zM)} (hP : zOKP P) (hy : plainName y.cls = true) (own : String) (hown : y.cls = own) (lv : List (Nat × Value)) (hlv : ∀ h : lv_has (lg_sl As ++ List.replicate (maxL - (lg_sl As).length) Slot.unset).toArray maxL (lv_args 0 As), lv_has (lg_sl As ++ List.replicate (maxL - (lg_sl As).length) Slot.unset).toArray maxL lv) (hmx : (lg_sl As).length ≤ maxL)
    (body : ∀ (G : zC) (M : zM), zOK P G own cc maxL fr lo ret → zG P G (F M) M 0 lv []) : zMet l P y cc maxL fr lo ret As F := by
  intro sz M res hF
  refine Met.ofW (cc := cc) (maxL := maxL) (ret := ret) hy rfl ?_
  intro p e s m args below meth c s₁ B hml hv
  obtain ⟨rfl, hsz, hWM, hP0, hK, hT⟩ := hv
  subst hsz
  have hl := lv_entry As (n := maxL) hmx
  rw [lg_entry_eq]
  have ok : zOK P ((p, l, e, (headSpec [Cond.code y cc maxL ret] (zrm fr lo)).room, s, m), (As.toArray, below, meth, c), (MQ below (zQ ret P s.heap.size res) As.toArray s 0 0 (zA P s.heap.size)), res) own cc maxL fr lo ret :=
    ⟨⟨B.exec, B.bytes, hml, by rw [← hown]; exact findClass_of_methodNamed B.named, B.notSynchronized, B.returns⟩, ⟨hK, hT, hP⟩, rfl, rfl⟩
  exact body _ M ok hF hWM s.heap [] _ hP0 va_S.rf (by rw [← hml] at hlv hl ⊢; exact hlv hl)
/-! ===== rows ===== -/
section ZR
variable {P : zSt} {G : zC} {own : String} {cc : ByteArray} {nL fr lo : Nat} {ret : Option FieldType} {F F1 F2 : Option (Int32 × zM)} {M : zM} {pc : Nat} {lv lv' : List (Nat × Value)} {st : List Value}
theorem zOK.x (ok : zOK P G own cc nL fr lo ret) : G.1.1.tables.exec = Jvm.exec := ok.1.1
theorem zOK.b (ok : zOK P G own cc nL fr lo ret) : G.2.1.2.2.2.code = cc := ok.1.2.1
theorem zOK.n (ok : zOK P G own cc nL fr lo ret) : G.2.1.2.2.2.maxLocals = nL := ok.1.2.2.1
theorem zOK.o (ok : zOK P G own cc nL fr lo ret) : (zs G).vm.findClass own = some G.1.2.2.2.2.2.cls := ok.1.2.2.2.1
theorem zOK.k (ok : zOK P G own cc nL fr lo ret) : va_K (zD P) vwCl (ztys P) (zs G) := ok.2.1.1
theorem zOK.t (ok : zOK P G own cc nL fr lo ret) : zTab (zs G) := ok.2.1.2.1
theorem zOK.p (ok : zOK P G own cc nL fr lo ret) : zOKP P := ok.2.1.2.2
theorem zOK.w (ok : zOK P G own cc nL fr lo ret) {w : Cond} (h : zw w) : w.before G.2.1.1 (zs G) = true := ok.t.1 w h _
theorem zOK.m (ok : zOK P G own cc nL fr lo ret) {w : Cond} (h : zwn w) : va_Nw w (zs G) := ok.t.2 w h
theorem z_iload_n (ok : zOK P G own cc nL fr lo ret) {k : Fin 4} {x : Int32} (j : Nat) (hd : decode cc pc = .ok (.iload_n k, 1)) (hj : lv[j]? = some ((k : Nat), .int x)) (kk : zG P G F M (pc + 1) lv (.int x :: st)) : zG P G F M pc lv st :=
  fun hF hM H locs ls hP hS hl => lv_iload_n ok.x ok.b hd rfl (lv_at hl j hj) (kk hF hM H locs ls hP hS hl)
theorem z_iload (ok : zOK P G own cc nL fr lo ret) {i : Nat} {x : Int32} (j : Nat) (hd : decode cc pc = .ok (.iload i, 2)) (hj : lv[j]? = some (i, .int x)) (kk : zG P G F M (pc + 2) lv (.int x :: st)) : zG P G F M pc lv st :=
  fun hF hM H locs ls hP hS hl => lv_iload ok.x ok.b hd (lv_at hl j hj) (kk hF hM H locs ls hP hS hl)
theorem z_aload_n (ok : zOK P G own cc nL fr lo ret) {k : Fin 4} {x : Nat} (j : Nat) (hd : decode cc pc = .ok (.aload_n k, 1)) (hj : lv[j]? = some ((k : Nat), .ref x)) (kk : zG P G F M (pc + 1) lv (.ref x :: st)) : zG P G F M pc lv st :=
  fun hF hM H locs ls hP hS hl => lv_aload_n ok.x ok.b hd rfl (lv_at hl j hj) (kk hF hM H locs ls hP hS hl)
theorem z_aload (ok : zOK P G own cc nL fr lo ret) {i : Nat} {x : Nat} (j : Nat) (hd : decode cc pc = .ok (.aload i, 2)) (hj : lv[j]? = some (i, .ref x)) (kk : zG P G F M (pc + 2) lv (.ref x :: st)) : zG P G F M pc lv st :=
  fun hF hM H locs ls hP hS hl => lv_aload ok.x ok.b hd (lv_at hl j hj) (kk hF hM H locs ls hP hS hl)
theorem z_istore_n (ok : zOK P G own cc nL fr lo ret) {k : Fin 4} {x : Int32} {kf : Int32 → Option (Int32 × zM)} (lvf : Int32 → List (Nat × Value)) (hd : decode cc pc = .ok (.istore_n k, 1)) (hn : (k : Nat) < nL) (hl : ∀ v, ((k : Nat), Value.int v) :: lv.filter (fun q => !(q.1 == (k : Nat)) && !(q.1 + 1 == (k : Nat) && q.2.category == 2)) = lvf v) (kk : ∀ v, zG P G (kf v) M (pc + 1) (lvf v) st) : zG P G (zl x kf) M pc lv (.int x :: st) :=
  fun hF hM H locs ls hP hS hl9 => lv_istore_n (lv' := lvf x) ok.x ok.b hd rfl hl9 (by rw [ok.n.symm] at hn; exact hn) (hl x) (fun ls' h' => kk x hF hM H locs ls' hP hS h')
theorem z_istore (ok : zOK P G own cc nL fr lo ret) {i : Nat} {x : Int32} {kf : Int32 → Option (Int32 × zM)} (lvf : Int32 → List (Nat × Value)) (hd : decode cc pc = .ok (.istore i, 2)) (hn : i < nL) (hl : ∀ v, (i, Value.int v) :: lv.filter (fun q => !(q.1 == i) && !(q.1 + 1 == i && q.2.category == 2)) = lvf v) (kk : ∀ v, zG P G (kf v) M (pc + 2) (lvf v) st) : zG P G (zl x kf) M pc lv (.int x :: st) :=
  fun hF hM H locs ls hP hS hl9 => lv_istore (lv' := lvf x) ok.x ok.b hd hl9 (by rw [ok.n.symm] at hn; exact hn) (hl x) (fun ls' h' => kk x hF hM H locs ls' hP hS h')
theorem z_astore_n (ok : zOK P G own cc nL fr lo ret) {k : Fin 4} {x : Nat} (lv' : List (Nat × Value)) (hd : decode cc pc = .ok (.astore_n k, 1)) (hn : (k : Nat) < nL) (hl : ((k : Nat), Value.ref x) :: lv.filter (fun q => !(q.1 == (k : Nat)) && !(q.1 + 1 == (k : Nat) && q.2.category == 2)) = lv') (kk : zG P G F M (pc + 1) lv' st) : zG P G F M pc lv (.ref x :: st) :=
  fun hF hM H locs ls hP hS hl9 => lv_astore_n (lv' := lv') ok.x ok.b hd rfl hl9 (by rw [ok.n.symm] at hn; exact hn) hl (fun ls' h' => kk hF hM H locs ls' hP hS h')
theorem z_astore (ok : zOK P G own cc nL fr lo ret) {i : Nat} {x : Nat} (lv' : List (Nat × Value)) (hd : decode cc pc = .ok (.astore i, 2)) (hn : i < nL) (hl : (i, Value.ref x) :: lv.filter (fun q => !(q.1 == i) && !(q.1 + 1 == i && q.2.category == 2)) = lv') (kk : zG P G F M (pc + 2) lv' st) : zG P G F M pc lv (.ref x :: st) :=
  fun hF hM H locs ls hP hS hl9 => lv_astore (lv' := lv') ok.x ok.b hd hl9 (by rw [ok.n.symm] at hn; exact hn) hl (fun ls' h' => kk hF hM H locs ls' hP hS h')
theorem z_iinc (ok : zOK P G own cc nL fr lo ret) {i : Nat} {n : Int} {x d : Int32} {kf : Int32 → Option (Int32 × zM)} (lvf : Int32 → List (Nat × Value)) (j : Nat) (hd : decode cc pc = .ok (.iinc i n, 3)) (hj : lv[j]? = some (i, .int x)) (hv : Int32.ofInt n = d) (hn : i < nL) (hl : ∀ v, (i, Value.int v) :: lv.filter (fun q => !(q.1 == i) && !(q.1 + 1 == i && q.2.category == 2)) = lvf v) (kk : ∀ v, zG P G (kf v) M (pc + 3) (lvf v) st) : zG P G (zl (x + d) kf) M pc lv st :=
  fun hF hM H locs ls hP hS hl9 => lv_iinc (v := x + d) (lv' := lvf (x + d)) ok.x ok.b hd hl9 hj (by rw [hv]) (by rw [ok.n.symm] at hn; exact hn) (hl _) (fun ls' h' => kk _ hF hM H locs ls' hP hS h')
/-- fewer locals -/
theorem z_sub (ks : List Nat) (lv' : List (Nat × Value)) (hl : lv_pick lv ks = lv') (kk : zG P G F M pc lv' st) : zG P G F M pc lv st :=
  fun hF hM H locs ls hP hS hl9 => kk hF hM H locs ls hP hS (lv_sub hl9 ks hl)
theorem z_iconst (ok : zOK P G own cc nL fr lo ret) {n : Int} (v : Int32) (hd : decode cc pc = .ok (.iconst n, 1)) (hv : Int32.ofInt n = v) (kk : zG P G F M (pc + 1) lv (.int v :: st)) : zG P G F M pc lv st :=
  fun hF hM H locs ls hP hS hl => lv_iconst ok.x ok.b hd hv (kk hF hM H locs ls hP hS hl)
theorem z_bipush (ok : zOK P G own cc nL fr lo ret) {n : Int} (v : Int32) (hd : decode cc pc = .ok (.bipush n, 2)) (hv : (Int8.ofInt n).toInt32 = v) (kk : zG P G F M (pc + 2) lv (.int v :: st)) : zG P G F M pc lv st :=
  fun hF hM H locs ls hP hS hl => lv_bipush ok.x ok.b hd hv (kk hF hM H locs ls hP hS hl)
theorem z_sipush (ok : zOK P G own cc nL fr lo ret) {n : Int} (v : Int32) (hd : decode cc pc = .ok (.sipush n, 3)) (hv : (Int16.ofInt n).toInt32 = v) (kk : zG P G F M (pc + 3) lv (.int v :: st)) : zG P G F M pc lv st :=
  fun hF hM H locs ls hP hS hl => lv_sipush ok.x ok.b hd hv (kk hF hM H locs ls hP hS hl)
theorem z_ldc (ok : zOK P G own cc nL fr lo ret) {i : Nat} (v : Int32) (hw : zw (.constant own i v)) (hd : decode cc pc = .ok (.ldc i, 2)) (kk : zG P G F M (pc + 2) lv (.int v :: st)) : zG P G F M pc lv st :=
  fun hF hM H locs ls hP hS hl => lv_ldc ok.x ok.b ok.o (ok.w hw) hd (kk hF hM H locs ls hP hS hl)
theorem z_iadd (ok : zOK P G own cc nL fr lo ret) {x y : Int32} (hd : decode cc pc = .ok (.iadd, 1)) (kk : zG P G F M (pc + 1) lv (.int (x + y) :: st)) : zG P G F M pc lv (.int y :: .int x :: st) :=
  fun hF hM H locs ls hP hS hl => lv_iadd ok.x ok.b hd (kk hF hM H locs ls hP hS hl)
theorem z_isub (ok : zOK P G own cc nL fr lo ret) {x y : Int32} (hd : decode cc pc = .ok (.isub, 1)) (kk : zG P G F M (pc + 1) lv (.int (x - y) :: st)) : zG P G F M pc lv (.int y :: .int x :: st) :=
  fun hF hM H locs ls hP hS hl => lv_isub ok.x ok.b hd (kk hF hM H locs ls hP hS hl)
theorem z_imul (ok : zOK P G own cc nL fr lo ret) {x y : Int32} (hd : decode cc pc = .ok (.imul, 1)) (kk : zG P G F M (pc + 1) lv (.int (x * y) :: st)) : zG P G F M pc lv (.int y :: .int x :: st) :=
  fun hF hM H locs ls hP hS hl => lv_imul ok.x ok.b hd (kk hF hM H locs ls hP hS hl)
theorem z_iand (ok : zOK P G own cc nL fr lo ret) {x y : Int32} (hd : decode cc pc = .ok (.iand, 1)) (kk : zG P G F M (pc + 1) lv (.int (x &&& y) :: st)) : zG P G F M pc lv (.int y :: .int x :: st) :=
  fun hF hM H locs ls hP hS hl => lv_iand ok.x ok.b hd (kk hF hM H locs ls hP hS hl)
theorem z_ior (ok : zOK P G own cc nL fr lo ret) {x y : Int32} (hd : decode cc pc = .ok (.ior, 1)) (kk : zG P G F M (pc + 1) lv (.int (x ||| y) :: st)) : zG P G F M pc lv (.int y :: .int x :: st) :=
  fun hF hM H locs ls hP hS hl => lv_ior ok.x ok.b hd (kk hF hM H locs ls hP hS hl)
theorem z_ixor (ok : zOK P G own cc nL fr lo ret) {x y : Int32} (hd : decode cc pc = .ok (.ixor, 1)) (kk : zG P G F M (pc + 1) lv (.int (x ^^^ y) :: st)) : zG P G F M pc lv (.int y :: .int x :: st) :=
  fun hF hM H locs ls hP hS hl => lv_ixor ok.x ok.b hd (kk hF hM H locs ls hP hS hl)
theorem z_ishl (ok : zOK P G own cc nL fr lo ret) {x y : Int32} (hd : decode cc pc = .ok (.ishl, 1)) (kk : zG P G F M (pc + 1) lv (.int (x <<< (y &&& 31)) :: st)) : zG P G F M pc lv (.int y :: .int x :: st) :=
  fun hF hM H locs ls hP hS hl => lv_ishl ok.x ok.b hd (kk hF hM H locs ls hP hS hl)
theorem z_ishr (ok : zOK P G own cc nL fr lo ret) {x y : Int32} (hd : decode cc pc = .ok (.ishr, 1)) (kk : zG P G F M (pc + 1) lv (.int (x >>> (y &&& 31)) :: st)) : zG P G F M pc lv (.int y :: .int x :: st) :=
  fun hF hM H locs ls hP hS hl => lv_ishr ok.x ok.b hd (kk hF hM H locs ls hP hS hl)
theorem z_ineg (ok : zOK P G own cc nL fr lo ret) {x : Int32} (hd : decode cc pc = .ok (.ineg, 1)) (kk : zG P G F M (pc + 1) lv (.int (-x) :: st)) : zG P G F M pc lv (.int x :: st) :=
  fun hF hM H locs ls hP hS hl => lv_ineg ok.x ok.b hd (kk hF hM H locs ls hP hS hl)
theorem z_i2c (ok : zOK P G own cc nL fr lo ret) {x : Int32} (hd : decode cc pc = .ok (.i2c, 1)) (kk : zG P G F M (pc + 1) lv (.int ((x.toUInt32 % 65536).toInt32) :: st)) : zG P G F M pc lv (.int x :: st) :=
  fun hF hM H locs ls hP hS hl => lv_i2c ok.x ok.b hd rfl (kk hF hM H locs ls hP hS hl)
theorem z_idiv (ok : zOK P G own cc nL fr lo ret) {x y : Int32} (hd : decode cc pc = .ok (.idiv, 1)) (kk : zG P G F M (pc + 1) lv (.int (x / y) :: st)) : zG P G (if y = 0 then none else F) M pc lv (.int y :: .int x :: st) := by
  intro hF hM H locs ls hP hS hl
  by_cases h : y = 0
  · rw [if_pos h] at hF; cases hF
  · rw [if_neg h] at hF
    exact lv_idiv ok.x ok.b hd h (kk hF hM H locs ls hP hS hl)
theorem z_irem (ok : zOK P G own cc nL fr lo ret) {x y : Int32} (hd : decode cc pc = .ok (.irem, 1)) (kk : zG P G F M (pc + 1) lv (.int (x - x / y * y) :: st)) : zG P G (if y = 0 then none else F) M pc lv (.int y :: .int x :: st) := by
  intro hF hM H locs ls hP hS hl
  by_cases h : y = 0
  · rw [if_pos h] at hF; cases hF
  · rw [if_neg h] at hF
    exact lv_irem ok.x ok.b hd h (kk hF hM H locs ls hP hS hl)
theorem z_dup (ok : zOK P G own cc nL fr lo ret) {v : Value} (hd : decode cc pc = .ok (.dup, 1)) (hv : v.category = 1) (kk : zG P G F M (pc + 1) lv (v :: v :: st)) : zG P G F M pc lv (v :: st) :=
  fun hF hM H locs ls hP hS hl => lv_dup ok.x ok.b hd hv (kk hF hM H locs ls hP hS hl)
theorem z_goto (ok : zOK P G own cc nL fr lo ret) {off : Int} (tgt : Nat) (hd : decode cc pc = .ok (.goto off, 3)) (ht : (pc : Int) + off = (tgt : Int)) (kk : zG P G F M tgt lv st) : zG P G F M pc lv st :=
  fun hF hM H locs ls hP hS hl => lv_goto ok.x ok.b hd ht (kk hF hM H locs ls hP hS hl)
theorem z_icmp_eq (ok : zOK P G own cc nL fr lo ret) {x y : Int32} {off : Int} (tgt : Nat) (hd : decode cc pc = .ok (.if_icmp .eq off, 3)) (ht : (pc : Int) + off = (tgt : Int)) (kt : zG P G F1 M tgt lv st) (kf : zG P G F2 M (pc + 3) lv st) : zG P G (if x = y then F1 else F2) M pc lv (.int y :: .int x :: st) := by
  intro hF hM H locs ls hP hS hl
  refine lv_icmp_eq ok.x ok.b hd ht (fun h => ?_) (fun h => ?_)
  · rw [if_pos h] at hF
    exact kt hF hM H locs ls hP hS hl
  · rw [if_neg h] at hF
    exact kf hF hM H locs ls hP hS hl
theorem z_icmp_ne (ok : zOK P G own cc nL fr lo ret) {x y : Int32} {off : Int} (tgt : Nat) (hd : decode cc pc = .ok (.if_icmp .ne off, 3)) (ht : (pc : Int) + off = (tgt : Int)) (kt : zG P G F1 M tgt lv st) (kf : zG P G F2 M (pc + 3) lv st) : zG P G (if x = y then F2 else F1) M pc lv (.int y :: .int x :: st) := by
  intro hF hM H locs ls hP hS hl
  refine lv_icmp_ne ok.x ok.b hd ht (fun h => ?_) (fun h => ?_)
  · rw [if_neg h] at hF
    exact kt hF hM H locs ls hP hS hl
  · rw [if_pos h] at hF
    exact kf hF hM H locs ls hP hS hl
theorem z_icmp_lt (ok : zOK P G own cc nL fr lo ret) {x y : Int32} {off : Int} (tgt : Nat) (hd : decode cc pc = .ok (.if_icmp .lt off, 3)) (ht : (pc : Int) + off = (tgt : Int)) (kt : zG P G F1 M tgt lv st) (kf : zG P G F2 M (pc + 3) lv st) : zG P G (if x < y then F1 else F2) M pc lv (.int y :: .int x :: st) := by
  intro hF hM H locs ls hP hS hl
  refine lv_icmp_lt ok.x ok.b hd ht (fun h => ?_) (fun h => ?_)
  · rw [if_pos h] at hF
    exact kt hF hM H locs ls hP hS hl
  · rw [if_neg h] at hF
    exact kf hF hM H locs ls hP hS hl
theorem z_icmp_ge (ok : zOK P G own cc nL fr lo ret) {x y : Int32} {off : Int} (tgt : Nat) (hd : decode cc pc = .ok (.if_icmp .ge off, 3)) (ht : (pc : Int) + off = (tgt : Int)) (kt : zG P G F1 M tgt lv st) (kf : zG P G F2 M (pc + 3) lv st) : zG P G (if y ≤ x then F1 else F2) M pc lv (.int y :: .int x :: st) := by
  intro hF hM H locs ls hP hS hl
  refine lv_icmp_ge ok.x ok.b hd ht (fun h => ?_) (fun h => ?_)
  · rw [if_pos h] at hF
    exact kt hF hM H locs ls hP hS hl
  · rw [if_neg h] at hF
    exact kf hF hM H locs ls hP hS hl
theorem z_icmp_gt (ok : zOK P G own cc nL fr lo ret) {x y : Int32} {off : Int} (tgt : Nat) (hd : decode cc pc = .ok (.if_icmp .gt off, 3)) (ht : (pc : Int) + off = (tgt : Int)) (kt : zG P G F1 M tgt lv st) (kf : zG P G F2 M (pc + 3) lv st) : zG P G (if y < x then F1 else F2) M pc lv (.int y :: .int x :: st) := by
  intro hF hM H locs ls hP hS hl
  refine lv_icmp_gt ok.x ok.b hd ht (fun h => ?_) (fun h => ?_)
  · rw [if_pos h] at hF
    exact kt hF hM H locs ls hP hS hl
  · rw [if_neg h] at hF
    exact kf hF hM H locs ls hP hS hl
theorem z_icmp_le (ok : zOK P G own cc nL fr lo ret) {x y : Int32} {off : Int} (tgt : Nat) (hd : decode cc pc = .ok (.if_icmp .le off, 3)) (ht : (pc : Int) + off = (tgt : Int)) (kt : zG P G F1 M tgt lv st) (kf : zG P G F2 M (pc + 3) lv st) : zG P G (if x ≤ y then F1 else F2) M pc lv (.int y :: .int x :: st) := by
  intro hF hM H locs ls hP hS hl
  refine lv_icmp_le ok.x ok.b hd ht (fun h => ?_) (fun h => ?_)
  · rw [if_pos h] at hF
    exact kt hF hM H locs ls hP hS hl
  · rw [if_neg h] at hF
    exact kf hF hM H locs ls hP hS hl
theorem z_if_eq (ok : zOK P G own cc nL fr lo ret) {x : Int32} {off : Int} (tgt : Nat) (hd : decode cc pc = .ok (.ifCond .eq off, 3)) (ht : (pc : Int) + off = (tgt : Int)) (kt : zG P G F1 M tgt lv st) (kf : zG P G F2 M (pc + 3) lv st) : zG P G (if x = 0 then F1 else F2) M pc lv (.int x :: st) := by
  intro hF hM H locs ls hP hS hl
  refine lv_if_eq ok.x ok.b hd ht (fun h => ?_) (fun h => ?_)
  · rw [if_pos h] at hF
    exact kt hF hM H locs ls hP hS hl
  · rw [if_neg h] at hF
    exact kf hF hM H locs ls hP hS hl
theorem z_if_ne (ok : zOK P G own cc nL fr lo ret) {x : Int32} {off : Int} (tgt : Nat) (hd : decode cc pc = .ok (.ifCond .ne off, 3)) (ht : (pc : Int) + off = (tgt : Int)) (kt : zG P G F1 M tgt lv st) (kf : zG P G F2 M (pc + 3) lv st) : zG P G (if x = 0 then F2 else F1) M pc lv (.int x :: st) := by
  intro hF hM H locs ls hP hS hl
  refine lv_if_ne ok.x ok.b hd ht (fun h => ?_) (fun h => ?_)
  · rw [if_neg h] at hF
    exact kt hF hM H locs ls hP hS hl
  · rw [if_pos h] at hF
    exact kf hF hM H locs ls hP hS hl
theorem z_if_lt (ok : zOK P G own cc nL fr lo ret) {x : Int32} {off : Int} (tgt : Nat) (hd : decode cc pc = .ok (.ifCond .lt off, 3)) (ht : (pc : Int) + off = (tgt : Int)) (kt : zG P G F1 M tgt lv st) (kf : zG P G F2 M (pc + 3) lv st) : zG P G (if x < 0 then F1 else F2) M pc lv (.int x :: st) := by
  intro hF hM H locs ls hP hS hl
  refine lv_if_lt ok.x ok.b hd ht (fun h => ?_) (fun h => ?_)
  · rw [if_pos h] at hF
    exact kt hF hM H locs ls hP hS hl
  · rw [if_neg h] at hF
    exact kf hF hM H locs ls hP hS hl
theorem z_if_ge (ok : zOK P G own cc nL fr lo ret) {x : Int32} {off : Int} (tgt : Nat) (hd : decode cc pc = .ok (.ifCond .ge off, 3)) (ht : (pc : Int) + off = (tgt : Int)) (kt : zG P G F1 M tgt lv st) (kf : zG P G F2 M (pc + 3) lv st) : zG P G (if 0 ≤ x then F1 else F2) M pc lv (.int x :: st) := by
  intro hF hM H locs ls hP hS hl
  refine lv_if_ge ok.x ok.b hd ht (fun h => ?_) (fun h => ?_)
  · rw [if_pos h] at hF
    exact kt hF hM H locs ls hP hS hl
  · rw [if_neg h] at hF
    exact kf hF hM H locs ls hP hS hl
theorem z_if_gt (ok : zOK P G own cc nL fr lo ret) {x : Int32} {off : Int} (tgt : Nat) (hd : decode cc pc = .ok (.ifCond .gt off, 3)) (ht : (pc : Int) + off = (tgt : Int)) (kt : zG P G F1 M tgt lv st) (kf : zG P G F2 M (pc + 3) lv st) : zG P G (if 0 < x then F1 else F2) M pc lv (.int x :: st) := by
  intro hF hM H locs ls hP hS hl
  refine lv_if_gt ok.x ok.b hd ht (fun h => ?_) (fun h => ?_)
  · rw [if_pos h] at hF
    exact kt hF hM H locs ls hP hS hl
  · rw [if_neg h] at hF
    exact kf hF hM H locs ls hP hS hl
theorem z_if_le (ok : zOK P G own cc nL fr lo ret) {x : Int32} {off : Int} (tgt : Nat) (hd : decode cc pc = .ok (.ifCond .le off, 3)) (ht : (pc : Int) + off = (tgt : Int)) (kt : zG P G F1 M tgt lv st) (kf : zG P G F2 M (pc + 3) lv st) : zG P G (if x ≤ 0 then F1 else F2) M pc lv (.int x :: st) := by
  intro hF hM H locs ls hP hS hl
  refine lv_if_le ok.x ok.b hd ht (fun h => ?_) (fun h => ?_)
  · rw [if_pos h] at hF
    exact kt hF hM H locs ls hP hS hl
  · rw [if_neg h] at hF
    exact kf hF hM H locs ls hP hS hl
/-- a switch: the arms' texts, in order from lo -/
def zsw (x : Int32) (lo : Int) (Fs : List (Option (Int32 × zM))) (Fd : Option (Int32 × zM)) : Option (Int32 × zM) :=
  if x.toInt < lo then Fd else (Fs[(x.toInt - lo).toNat]?).getD Fd
def zArms (P : zSt) (G : zC) (M : zM) (lv : List (Nat × Value)) (st : List Value) : List (Option (Int32 × zM)) → List Nat → Prop
  | [], [] => True
  | F :: Fs, t :: ts => zG P G F M t lv st ∧ zArms P G M lv st Fs ts
  | _, _ => False
theorem zArms.at {Fs : List (Option (Int32 × zM))} {ts : List Nat} (h : zArms P G M lv st Fs ts) : Fs.length = ts.length ∧ ∀ (i : Nat) (F : Option (Int32 × zM)) (t : Nat), Fs[i]? = some F → ts[i]? = some t → zG P G F M t lv st := by
  induction Fs generalizing ts with
  | nil =>
    cases ts with
    | nil => exact ⟨rfl, fun i F t h => by simp at h⟩
    | cons _ _ => exact absurd h (by simp [zArms])
  | cons F Fs ih =>
    cases ts with
    | nil => exact absurd h (by simp [zArms])
    | cons t ts =>
      obtain ⟨h1, h2⟩ := h
      obtain ⟨g1, g2⟩ := ih h2
      refine ⟨by simp [g1], fun i F' t' hi hi' => ?_⟩
      cases i with
      | zero => cases hi; cases hi'; exact h1
      | succ i => exact g2 i F' t' hi hi'
theorem z_tsw (ok : zOK P G own cc nL fr lo ret) {dflt a b : Int} {offs : Array Int} {len : Nat} {x : Int32} {Fs : List (Option (Int32 × zM))} {Fd : Option (Int32 × zM)} (td : Nat) (ts : List Nat) (hd : decode cc pc = .ok (.tableswitch dflt a b offs, len)) (hts : offs.toList.map (fun o => ((pc : Int) + o)) = ts.map (fun (t : Nat) => (t : Int))) (hb : b - a + 1 = (ts.length : Int)) (htd : (pc : Int) + dflt = (td : Int)) (karms : zArms P G M lv st Fs ts) (kd : zG P G Fd M td lv st) : zG P G (zsw x a Fs Fd) M pc lv (.int x :: st) := by
  intro hF hM H locs ls hP hS hl
  obtain ⟨hlen, harm⟩ := karms.at
  by_cases h1 : x.toInt < a
  · unfold zsw at hF
    rw [if_pos h1] at hF
    exact lv_tableOut ok.x ok.b hd (Or.inl h1) htd (kd hF hM H locs ls hP hS hl)
  · by_cases h2 : b < x.toInt
    · unfold zsw at hF
      rw [if_neg h1, List.getElem?_eq_none (by rw [hlen]; omega)] at hF
      exact lv_tableOut ok.x ok.b hd (Or.inr h2) htd (kd hF hM H locs ls hP hS hl)
    · have hi : (x.toInt - a).toNat < ts.length := by omega
      have hi2 : (x.toInt - a).toNat < Fs.length := by omega
      unfold zsw at hF
      rw [if_neg h1, List.getElem?_eq_getElem hi2] at hF
      have e1 : (ts.map (fun (t : Nat) => (t : Int)))[(x.toInt - a).toNat]? = some ((ts[(x.toInt - a).toNat] : Nat) : Int) := by
        rw [List.getElem?_map, List.getElem?_eq_getElem hi]
        rfl
      rw [← hts, List.getElem?_map] at e1
      cases ho : offs.toList[(x.toInt - a).toNat]? with
      | none => rw [ho] at e1; cases e1
      | some o =>
        rw [ho] at e1
        have e2 : (pc : Int) + o = ((ts[(x.toInt - a).toNat] : Nat) : Int) := Option.some.inj e1
        exact lv_tableIn ok.x ok.b hd h1 h2 (by rw [← Array.getElem?_toList]; exact ho) e2 (harm _ _ _ (List.getElem?_eq_getElem hi2) (List.getElem?_eq_getElem hi) hF hM H locs ls hP hS hl)
theorem z_lsw2 (ok : zOK P G own cc nL fr lo ret) {dflt o1 o2 : Int} {c1 c2 : Int} {len : Nat} {x k1 k2 : Int32} {F3 : Option (Int32 × zM)} (t1 t2 td : Nat) (hd : decode cc pc = .ok (.lookupswitch dflt #[(c1, o1), (c2, o2)], len)) (h12 : c1 < c2) (hk1 : k1.toInt = c1) (hk2 : k2.toInt = c2) (ht1 : (pc : Int) + o1 = (t1 : Int)) (ht2 : (pc : Int) + o2 = (t2 : Int)) (htd : (pc : Int) + dflt = (td : Int)) (ka : zG P G F1 M t1 lv st) (kb : zG P G F2 M t2 lv st) (kd : zG P G F3 M td lv st) : zG P G (if x = k1 then F1 else if x = k2 then F2 else F3) M pc lv (.int x :: st) := by
  intro hF hM H locs ls hP hS hl
  have hp : (((#[(c1, o1), (c2, o2)] : Array (Int × Int)).toList.zip ((#[(c1, o1), (c2, o2)] : Array (Int × Int)).toList.drop 1)).all (fun (a, next) => a.1 < next.1)) = true := by simp [h12]
  by_cases h1 : x = k1
  · rw [if_pos h1] at hF
    exact lv_lookup ok.x ok.b hd hp (by rw [h1, hk1]; simp [Op.lookupswitch.offset]) ht1 (ka hF hM H locs ls hP hS hl)
  · rw [if_neg h1] at hF
    by_cases h2 : x = k2
    · rw [if_pos h2] at hF
      exact lv_lookup ok.x ok.b hd hp (by rw [show (#[(c1, o1), (c2, o2)] : Array (Int × Int)).toList = [(c1, o1), (c2, o2)] from rfl, lv_osw h1 hk1, h2, hk2]; simp [Op.lookupswitch.offset]) ht2 (kb hF hM H locs ls hP hS hl)
    · rw [if_neg h2] at hF
      exact lv_lookup ok.x ok.b hd hp (by rw [show (#[(c1, o1), (c2, o2)] : Array (Int × Int)).toList = [(c1, o1), (c2, o2)] from rfl, lv_osw h1 hk1, lv_osw h2 hk2]; simp [Op.lookupswitch.offset]) htd (kd hF hM H locs ls hP hS hl)
/-! ===== fields ===== -/
/-- field f = 20 ci + j of class ci, an int field -/
def zFd (f ci j : Nat) (nm own desc : String) (ty : FieldType) : Prop :=
  20 * ci + j = f ∧ ∃ (C : String) (T : u_T) (N : Nat), vwCl[ci]? = some (C, T, N) ∧ j < N ∧ T j = (own, nm, desc, false) ∧ (zft ci)[j]? = some none ∧ parseFieldDescriptor desc = some ty
/-- a reference field, to kind k -/
def zFr (f ci j : Nat) (nm own desc : String) (k : Nat) : Prop :=
  20 * ci + j = f ∧ ∃ (C : String) (T : u_T) (N : Nat) (b : Bool), vwCl[ci]? = some (C, T, N) ∧ j < N ∧ T j = (own, nm, desc, b) ∧ (zft ci)[j]? = some (some k)
theorem zci {ci : Nat} {q : vw_C} (h : vwCl[ci]? = some q) : ci ≤ 10 := by
  have := (List.getElem?_eq_some_iff.mp h).1
  have e : vwCl.length = 11 := rfl
  omega
theorem zlay {ci : Nat} {q : vw_C} (h : vwCl[ci]? = some q) : ∀ w ∈ u_ws q.1 q.2.1 q.2.2, zw w := by
  have h0 : ∀ q ∈ vwCl, ∀ w ∈ u_ws q.1 q.2.1 q.2.2, w ∈ lw_tbl ∧ goodWord w = true := by decide +kernel
  exact h0 q (List.mem_of_getElem? h)
theorem zcls {ci : Nat} {q : vw_C} (h : vwCl[ci]? = some q) : (∃ ty0 : Nat → FieldType, ∀ k, k < q.2.2 → parseFieldDescriptor (q.2.1 k).2.2.1 = some (ty0 k)) ∧ ∀ a, a < q.2.2 → ∀ b, b < q.2.2 → a ≠ b → (q.2.1 a).2.1 ≠ (q.2.1 b).2.1 := by
  have h1 := zci h
  rcases (show ci = 0 ∨ ci = 1 ∨ ci = 2 ∨ ci = 3 ∨ ci = 4 ∨ ci = 5 ∨ ci = 6 ∨ ci = 7 ∨ ci = 8 ∨ ci = 9 ∨ ci = 10 by omega) with rfl | rfl | rfl | rfl | rfl | rfl | rfl | rfl | rfl | rfl | rfl <;> cases h
  · exact ⟨⟨_, tyX0_ok⟩, nmX0⟩
  · exact ⟨⟨_, tyX1_ok⟩, nmX1⟩
  · exact ⟨⟨_, tyX2_ok⟩, nmX2⟩
  · exact ⟨⟨_, tyX3_ok⟩, nmX3⟩
  · exact ⟨⟨_, tyX4_ok⟩, nmX4⟩
  · exact ⟨⟨_, tyX5_ok⟩, nmX5⟩
  · exact ⟨⟨_, tyX6_ok⟩, nmX6⟩
  · exact ⟨⟨_, tyX7_ok⟩, nmX7⟩
  · exact ⟨⟨_, tyX8_ok⟩, nmX8⟩
  · exact ⟨⟨_, tyX10_ok⟩, nmX10⟩
  · exact ⟨⟨_, tyX11_ok⟩, nmX11⟩
def zSame (ref own nm desc : String) : Prop := ref = own ∨ zw (.sameField ref own nm desc)
theorem zSame.use {ref own nm desc own9 : String} (h : zSame ref own nm desc) (ok : zOK P G own9 cc nL fr lo ret) : ∀ x, (zs G).fieldFound? own nm desc = some x → (zs G).fieldFound? ref nm desc = some x := by
  rcases h with rfl | h
  · exact fun _ h => h
  · exact fun x hx => u_same (ok.w h) x hx
theorem z_get0 (ok : zOK P G own cc nL fr lo ret) {ref nm fo desc : String} {idx ci j a : Nat} {C : String} {T : u_T} {N : Nat} {b : Bool} {t : Option Nat} (hc : vwCl[ci]? = some (C, T, N)) (hjN : j < N) (hT : T j = (fo, nm, desc, b)) (hj : (zft ci)[j]? = some t) (h : zT P ci a) (hs : zSame ref fo nm desc) (hw : zw (.fieldLink own idx ref nm desc) ∨ ∃ host, zwn (.fieldLinkNest own idx ref nm desc host)) (hd : decode cc pc = .ok (.getfield idx, 3)) (kk : zG P G F M (pc + 3) lv (zfv P M a ci j t :: st)) : zG P G F M pc lv (.ref a :: st) := by
  intro hF hM H locs ls hP hS hl
  obtain ⟨k, hk⟩ := zpl_get (f := zcell P M) h.1
  rw [zcell_o h.2 (zci hc)] at hk
  have hlay : ∀ w ∈ u_ws C T N, w.before G.2.1.1 (zs G) = true := fun w hw9 => ok.w (zlay hc w hw9)
  have hsm := hs.use ok
  rcases hw with hw | ⟨host, hw⟩
  · exact va_get (C := C) (T := T) (N := N) ok.x ok.b hlay (fun _ h => h) ok.o ok.k hP k hk hc j hjN (by rw [hT]; exact ok.w hw) (by rw [hT]; exact hsm) (zfs_get hj) hd (kk hF hM H locs ls hP hS hl)
  · exact va_getN (C := C) (T := T) (N := N) (host := host) ok.x ok.b hlay (fun _ h => h) ok.o ok.k hP k hk hc j hjN (by rw [hT]; exact va_Nw.use rfl (ok.m hw)) (by rw [hT]; exact hsm) (zfs_get hj) hd (kk hF hM H locs ls hP hS hl)
theorem z_get (ok : zOK P G own cc nL fr lo ret) {ref nm fo desc : String} {ty : FieldType} {idx f ci j a : Nat} (fd : zFd f ci j nm fo desc ty) (h : zT P ci a) (hs : zSame ref fo nm desc) (hw : zw (.fieldLink own idx ref nm desc)) (hd : decode cc pc = .ok (.getfield idx, 3)) (kk : zG P G F M (pc + 3) lv (.int (zf M f a) :: st)) : zG P G F M pc lv (.ref a :: st) := by
  obtain ⟨rfl, C, T, N, h1, h2, h3, h4, -⟩ := fd
  exact z_get0 ok h1 h2 h3 h4 h hs (Or.inl hw) hd kk
theorem z_getn (ok : zOK P G own cc nL fr lo ret) {ref nm fo desc host : String} {ty : FieldType} {idx f ci j a : Nat} (fd : zFd f ci j nm fo desc ty) (h : zT P ci a) (hs : zSame ref fo nm desc) (hw : zwn (.fieldLinkNest own idx ref nm desc host)) (hd : decode cc pc = .ok (.getfield idx, 3)) (kk : zG P G F M (pc + 3) lv (.int (zf M f a) :: st)) : zG P G F M pc lv (.ref a :: st) := by
  obtain ⟨rfl, C, T, N, h1, h2, h3, h4, -⟩ := fd
  exact z_get0 ok h1 h2 h3 h4 h hs (Or.inr ⟨host, hw⟩) hd kk
theorem z_getR (ok : zOK P G own cc nL fr lo ret) {ref nm fo desc : String} {idx f ci j a k : Nat} {kf : Nat → Option (Int32 × zM)} (fd : zFr f ci j nm fo desc k) (h : zT P ci a) (hs : zSame ref fo nm desc) (hw : zw (.fieldLink own idx ref nm desc)) (hd : decode cc pc = .ok (.getfield idx, 3)) (kk : ∀ b, zT P k b → zG P G (kf b) M (pc + 3) lv (.ref b :: st)) : zG P G (zl (zR P f a) kf) M pc lv (.ref a :: st) := by
  obtain ⟨rfl, C, T, N, b, h1, h2, h3, h4⟩ := fd
  exact z_get0 ok h1 h2 h3 h4 h hs (Or.inl hw) hd (kk _ (ok.p.1 a ci j k h h4))
theorem z_getRn (ok : zOK P G own cc nL fr lo ret) {ref nm fo desc host : String} {idx f ci j a k : Nat} {kf : Nat → Option (Int32 × zM)} (fd : zFr f ci j nm fo desc k) (h : zT P ci a) (hs : zSame ref fo nm desc) (hw : zwn (.fieldLinkNest own idx ref nm desc host)) (hd : decode cc pc = .ok (.getfield idx, 3)) (kk : ∀ b, zT P k b → zG P G (kf b) M (pc + 3) lv (.ref b :: st)) : zG P G (zl (zR P f a) kf) M pc lv (.ref a :: st) := by
  obtain ⟨rfl, C, T, N, b, h1, h2, h3, h4⟩ := fd
  exact z_get0 ok h1 h2 h3 h4 h hs (Or.inr ⟨host, hw⟩) hd (kk _ (ok.p.1 a ci j k h h4))
theorem z_put0 (ok : zOK P G own cc nL fr lo ret) {ref nm fo desc : String} {ty : FieldType} {idx ci j a : Nat} {v : Int32} {C : String} {T : u_T} {N : Nat} (hc : vwCl[ci]? = some (C, T, N)) (hjN : j < N) (hT : T j = (fo, nm, desc, false)) (hj : (zft ci)[j]? = some none) (hty : parseFieldDescriptor desc = some ty) (hn : narrow ty (.int v) = .int v) (hfit : fits ty (.int v) = true) (h : zT P ci a) (hs : zSame ref fo nm desc) (hw : zw (.fieldLink own idx ref nm desc) ∨ ∃ host, zwn (.fieldLinkNest own idx ref nm desc host)) (hd : decode cc pc = .ok (.putfield idx, 3)) (kk : zG P G F (zfp M (20 * ci + j) a v) (pc + 3) lv st) : zG P G F M pc lv (.int v :: .ref a :: st) := by
  intro hF hM H locs ls hP hS hl
  obtain ⟨k, hk0⟩ := zpl_get (f := zcell P M) h.1
  have hk := hk0
  rw [zcell_o h.2 (zci hc)] at hk
  have hlay : ∀ w ∈ u_ws C T N, w.before G.2.1.1 (zs G) = true := fun w hw9 => ok.w (zlay hc w hw9)
  have hsm := hs.use ok
  have hDD : va_D (zA P (zs G).heap.size) (va_pl (zL P) (zcell P M)) := zD_of ok.p
  have hset := zpl_set (e := .inr (ci, (zfs P M a ci).set j (.int v))) hDD h.1 hk0 (zcell_put h.2 (zci hc) hj)
  have hM2 : zWM P (zfp M (20 * ci + j) a v) := hM
  have hlen : j < (zfs P M a ci).length := by
    unfold zfs
    rw [List.length_mapIdx]
    exact (List.getElem?_eq_some_iff.mp hj).1
  obtain ⟨⟨ty0, hty0⟩, hnm⟩ := zcls hc
  have hfin : (T j).2.2.2 = false := by rw [hT]
  have hpd : parseFieldDescriptor (T j).2.2.1 = some ty := by rw [hT]; exact hty
  have k9 : ∀ (H1 : Heap) (locs1 : List Loc), va_P (zD P) vwCl ((va_pl (zL P) (zcell P M)).set k (a, .inr (ci, (zfs P M a ci).set j (.int v)))) H1 → va_D (zA P (zs G).heap.size) ((va_pl (zL P) (zcell P M)).set k (a, .inr (ci, (zfs P M a ci).set j (.int v)))) → va_S (zA P (zs G).heap.size) (zs G).heap H1 locs1 → zWat G H1 locs1 (pc + 3) ls st := fun H1 locs1 hP1 _ hS1 => kk hF hM2 H1 locs1 ls (by unfold zW; rw [hset] at hP1; exact hP1) hS1 hl
  rcases hw with hw | ⟨host, hw⟩
  · exact va_put (C := C) (T := T) (N := N) ok.x ok.b hlay (fun _ h => h) ty0 hty0 hnm ok.o ok.k hP hDD hS k hk hc j hjN (by rw [hT]; exact ok.w hw) (by rw [hT]; exact hsm) hfin hpd hn hfit hlen hd k9
  · exact va_putN (C := C) (T := T) (N := N) (host := host) ok.x ok.b hlay (fun _ h => h) ty0 hty0 hnm ok.o ok.k hP hDD hS k hk hc j hjN (by rw [hT]; exact va_Nw.use rfl (ok.m hw)) (by rw [hT]; exact hsm) hfin hpd hn hfit hlen hd k9
theorem z_put (ok : zOK P G own cc nL fr lo ret) {ref nm fo desc : String} {idx f ci j a : Nat} {v : Int32} {kf : zM → Option (Int32 × zM)} (fd : zFd f ci j nm fo desc .int) (h : zT P ci a) (hs : zSame ref fo nm desc) (hw : zw (.fieldLink own idx ref nm desc)) (hd : decode cc pc = .ok (.putfield idx, 3)) (kk : ∀ M', zG P G (kf M') M' (pc + 3) lv st) : zG P G (zl (zfp M f a v) kf) M pc lv (.int v :: .ref a :: st) := by
  obtain ⟨rfl, C, T, N, h1, h2, h3, h4, h5⟩ := fd
  exact z_put0 ok h1 h2 h3 h4 h5 rfl rfl h hs (Or.inl hw) hd (kk _)
theorem z_putn (ok : zOK P G own cc nL fr lo ret) {ref nm fo desc host : String} {idx f ci j a : Nat} {v : Int32} {kf : zM → Option (Int32 × zM)} (fd : zFd f ci j nm fo desc .int) (h : zT P ci a) (hs : zSame ref fo nm desc) (hw : zwn (.fieldLinkNest own idx ref nm desc host)) (hd : decode cc pc = .ok (.putfield idx, 3)) (kk : ∀ M', zG P G (kf M') M' (pc + 3) lv st) : zG P G (zl (zfp M f a v) kf) M pc lv (.int v :: .ref a :: st) := by
  obtain ⟨rfl, C, T, N, h1, h2, h3, h4, h5⟩ := fd
  exact z_put0 ok h1 h2 h3 h4 h5 rfl rfl h hs (Or.inr ⟨host, hw⟩) hd (kk _)
theorem zbo_ok {v : Int32} (h : zbo v = true) : narrow .boolean (.int v) = .int v ∧ fits .boolean (.int v) = true := by
  have h1 : v = 0 ∨ v = 1 := of_decide_eq_true h
  rcases h1 with rfl | rfl <;> exact ⟨rfl, rfl⟩
theorem z_putZ (ok : zOK P G own cc nL fr lo ret) {ref nm fo desc : String} {idx f ci j a : Nat} {v : Int32} {kf : zM → Option (Int32 × zM)} (fd : zFd f ci j nm fo desc .boolean) (h : zT P ci a) (hs : zSame ref fo nm desc) (hw : zw (.fieldLink own idx ref nm desc)) (hd : decode cc pc = .ok (.putfield idx, 3)) (kk : ∀ M', zG P G (kf M') M' (pc + 3) lv st) : zG P G (if zbo v = true then zl (zfp M f a v) kf else none) M pc lv (.int v :: .ref a :: st) := by
  intro hF
  by_cases hv : zbo v = true
  · rw [if_pos hv] at hF
    obtain ⟨rfl, C, T, N, h1, h2, h3, h4, h5⟩ := fd
    exact z_put0 ok h1 h2 h3 h4 h5 (zbo_ok hv).1 (zbo_ok hv).2 h hs (Or.inl hw) hd (kk _) hF
  · rw [if_neg hv] at hF
    cases hF
theorem z_putZn (ok : zOK P G own cc nL fr lo ret) {ref nm fo desc host : String} {idx f ci j a : Nat} {v : Int32} {kf : zM → Option (Int32 × zM)} (fd : zFd f ci j nm fo desc .boolean) (h : zT P ci a) (hs : zSame ref fo nm desc) (hw : zwn (.fieldLinkNest own idx ref nm desc host)) (hd : decode cc pc = .ok (.putfield idx, 3)) (kk : ∀ M', zG P G (kf M') M' (pc + 3) lv st) : zG P G (if zbo v = true then zl (zfp M f a v) kf else none) M pc lv (.int v :: .ref a :: st) := by
  intro hF
  by_cases hv : zbo v = true
  · rw [if_pos hv] at hF
    obtain ⟨rfl, C, T, N, h1, h2, h3, h4, h5⟩ := fd
    exact z_put0 ok h1 h2 h3 h4 h5 (zbo_ok hv).1 (zbo_ok hv).2 h hs (Or.inr ⟨host, hw⟩) hd (kk _) hF
  · rw [if_neg hv] at hF
    cases hF
/-! ===== arrays ===== -/
theorem zin_ok {i : Int32} {n : Nat} (h : zin i n = true) : vp_in i n := of_decide_eq_true (p := ¬ (i < 0 ∨ n ≤ i.toNatClampNeg)) h
theorem z_iald (ok : zOK P G own cc nL fr lo ret) {a : Nat} {i : Int32} (h : zT P 12 a) (hd : decode cc pc = .ok (.iaload, 1)) (kk : zG P G F M (pc + 1) lv (.int (za M a i.toNatClampNeg) :: st)) : zG P G (if zin i (zlen P a) = true then F else none) M pc lv (.int i :: .ref a :: st) := by
  intro hF hM H locs ls hP hS hl
  by_cases hv : zin i (zlen P a) = true
  · rw [if_pos hv] at hF
    obtain ⟨k, hk⟩ := zpl_get (f := zcell P M) h.1
    rw [zcell_i h.2 (Or.inr rfl)] at hk
    exact va_iald ok.x ok.b ok.k hP k 1 hk rfl (zin_ok hv) hd (kk hF hM H locs ls hP hS hl)
  · rw [if_neg hv] at hF
    cases hF
theorem z_cald (ok : zOK P G own cc nL fr lo ret) {a : Nat} {i : Int32} (h : zT P 11 a) (hd : decode cc pc = .ok (.caload, 1)) (kk : zG P G F M (pc + 1) lv (.int (za M a i.toNatClampNeg) :: st)) : zG P G (if zin i (zlen P a) = true then F else none) M pc lv (.int i :: .ref a :: st) := by
  intro hF hM H locs ls hP hS hl
  by_cases hv : zin i (zlen P a) = true
  · rw [if_pos hv] at hF
    obtain ⟨k, hk⟩ := zpl_get (f := zcell P M) h.1
    rw [zcell_i h.2 (Or.inl rfl)] at hk
    exact va_cald ok.x ok.b ok.k hP k 0 hk rfl (zin_ok hv) hd (kk hF hM H locs ls hP hS hl)
  · rw [if_neg hv] at hF
    cases hF
theorem z_iast (ok : zOK P G own cc nL fr lo ret) {a : Nat} {i v : Int32} {kf : zM → Option (Int32 × zM)} (h : zT P 12 a) (hd : decode cc pc = .ok (.iastore, 1)) (kk : ∀ M', zG P G (kf M') M' (pc + 1) lv st) : zG P G (if zin i (zlen P a) = true then zl (zap M a i.toNatClampNeg v) kf else none) M pc lv (.int v :: .int i :: .ref a :: st) := by
  intro hF hM H locs ls hP hS hl
  by_cases hv : zin i (zlen P a) = true
  · rw [if_pos hv] at hF
    obtain ⟨k, hk0⟩ := zpl_get (f := zcell P M) h.1
    have hk := hk0
    rw [zcell_i h.2 (Or.inr rfl)] at hk
    have hDD : va_D (zA P (zs G).heap.size) (va_pl (zL P) (zcell P M)) := zD_of ok.p
    have hset := zpl_set hDD h.1 hk0 (zcell_aput (i := i.toNatClampNeg) (v := v) h.2 (Or.inr rfl))
    exact va_iast ok.x ok.b ok.k hP hDD hS k 1 hk rfl (zin_ok hv) hd (fun H1 locs1 hP1 _ hS1 => kk _ hF hM H1 locs1 ls (by unfold zW; rw [hset] at hP1; exact hP1) hS1 hl)
  · rw [if_neg hv] at hF
    cases hF
theorem z_cast (ok : zOK P G own cc nL fr lo ret) {a : Nat} {i v : Int32} {kf : zM → Option (Int32 × zM)} (h : zT P 11 a) (hd : decode cc pc = .ok (.castore, 1)) (kk : ∀ M', zG P G (kf M') M' (pc + 1) lv st) : zG P G (if zin i (zlen P a) = true then zl (zap M a i.toNatClampNeg (vp_nar .char v)) kf else none) M pc lv (.int v :: .int i :: .ref a :: st) := by
  intro hF hM H locs ls hP hS hl
  by_cases hv : zin i (zlen P a) = true
  · rw [if_pos hv] at hF
    obtain ⟨k, hk0⟩ := zpl_get (f := zcell P M) h.1
    have hk := hk0
    rw [zcell_i h.2 (Or.inl rfl)] at hk
    have hDD : va_D (zA P (zs G).heap.size) (va_pl (zL P) (zcell P M)) := zD_of ok.p
    have hset := zpl_set hDD h.1 hk0 (zcell_aput (i := i.toNatClampNeg) (v := vp_nar .char v) h.2 (Or.inl rfl))
    exact va_cast ok.x ok.b ok.k hP hDD hS k 0 hk rfl (zin_ok hv) hd (fun H1 locs1 hP1 _ hS1 => kk _ hF hM H1 locs1 ls (by unfold zW; rw [hset] at hP1; exact hP1) hS1 hl)
  · rw [if_neg hv] at hF
    cases hF
/-- what kinds the rows of references are -/
def zEk (ka k : Nat) : Prop := zek ka = some k ∧ 13 ≤ ka ∧ ∃ t : Nat, ∀ P : zSt, (ztys P)[t]? = some (zcy P ka, zety ka)
theorem z_aald (ok : zOK P G own cc nL fr lo ret) {a ka k : Nat} {i : Int32} {kf : Nat → Option (Int32 × zM)} (he : zEk ka k) (h : zT P ka a) (hd : decode cc pc = .ok (.aaload, 1)) (kk : ∀ b, zT P k b → zG P G (kf b) M (pc + 1) lv (.ref b :: st)) : zG P G (if zin i (zlen P a) = true then zl (zr M a i.toNatClampNeg) kf else none) M pc lv (.int i :: .ref a :: st) := by
  intro hF hM H locs ls hP hS hl
  by_cases hv : zin i (zlen P a) = true
  · rw [if_pos hv] at hF
    obtain ⟨q, hq⟩ := zpl_get (f := zcell P M) h.1
    rw [zcell_r h.2 he.2.1] at hq
    obtain ⟨t, ht⟩ := he.2.2
    have hin := zin_ok hv
    have hlt : i.toNatClampNeg < zlen P a := Nat.not_le.mp fun q => hin (Or.inr q)
    refine W.aald (v := va_rf (some (zr M a i.toNatClampNeg))) (ty := zety ka) ok.x ok.b (hP q _ hq) ((ok.k.2 t _ (ht P)).1 (zlen P a) (fun j => va_rf (some (zr M a j)))) ?_ (fun q => by cases q) (by show ¬ (i < 0 ∨ (arrV _ _ _).slots.size ≤ _); rw [arrV_size]; exact hin) (by show (arrV _ _ _).slots[_]? = _; rw [arrV_read _ _ hlt]) rfl rfl hd (kk _ (hM a ka k _ h he.1 hlt) hF hM H locs ls hP hS hl)
    unfold zety
    split <;> first | rfl | exact absurd he.2.1 (by decide)
  · rw [if_neg hv] at hF
    cases hF
theorem z_aast (ok : zOK P G own cc nL fr lo ret) {a b ka k : Nat} {i : Int32} {C : String} {T : u_T} {N : Nat} {kf : zM → Option (Int32 × zM)} (he : zEk ka k) (hc : vwCl[k]? = some (C, T, N)) (hty : zety ka = .object C) (h : zT P ka a) (hb : zT P k b) (hd : decode cc pc = .ok (.aastore, 1)) (kk : ∀ M', zG P G (kf M') M' (pc + 1) lv st) : zG P G (if zin i (zlen P a) = true then zl (zrp M a i.toNatClampNeg b) kf else none) M pc lv (.ref b :: .int i :: .ref a :: st) := by
  intro hF hM H locs ls hP hS hl
  by_cases hv : zin i (zlen P a) = true
  · rw [if_pos hv] at hF
    obtain ⟨q, hq0⟩ := zpl_get (f := zcell P M) h.1
    have hq := hq0
    rw [zcell_r h.2 he.2.1] at hq
    obtain ⟨qb, hqb⟩ := zpl_get (f := zcell P M) hb.1
    rw [zcell_o hb.2 (zci hc)] at hqb
    obtain ⟨t, ht⟩ := he.2.2
    have ht' : (ztys P)[t]? = some (zcy P ka, .object ((C, T, N) : vw_C).1) := by rw [ht P, hty]
    have hDD : va_D (zA P (zs G).heap.size) (va_pl (zL P) (zcell P M)) := zD_of ok.p
    have hset := zpl_set hDD h.1 hq0 (zcell_rput (i := i.toNatClampNeg) (v := b) h.2 he.2.1)
    have hM2 : zWM P (zrp M a i.toNatClampNeg b) := by
      intro a1 k1 k2 i1 h1 h2 h3
      by_cases e : a1 = a ∧ i1 = i.toNatClampNeg
      · obtain ⟨rfl, rfl⟩ := e
        have e1 : k1 = ka := h1.2.symm.trans h.2
        subst e1
        have e2 : k = k2 := Option.some.inj (he.1.symm.trans h2)
        subst e2
        have e3 : zr (zrp M a1 i.toNatClampNeg b) a1 i.toNatClampNeg = b := by simp [zr, zrp, zu]
        rw [e3]
        exact hb
      · have e3 : zr (zrp M a i.toNatClampNeg b) a1 i1 = zr M a1 i1 := by simp [zr, zrp, zu, e]
        rw [e3]
        exact hM a1 k1 k2 i1 h1 h2 h3
    exact va_astq ok.x ok.b ok.k hP hDD hS q t qb k hq ht' hqb hc (zin_ok hv) hd (fun H1 locs1 hP1 _ hS1 => kk _ hF hM2 H1 locs1 ls (by unfold zW; rw [hset] at hP1; exact hP1) hS1 hl)
  · rw [if_neg hv] at hF
    cases hF
theorem z_alen (ok : zOK P G own cc nL fr lo ret) {a ka k : Nat} (he : zEk ka k) (h : zT P ka a) (hd : decode cc pc = .ok (.arraylength, 1)) (kk : zG P G F M (pc + 1) lv (.int (Int32.ofNat (zlen P a)) :: st)) : zG P G F M pc lv (.ref a :: st) := by
  intro hF hM H locs ls hP hS hl
  obtain ⟨q, hq⟩ := zpl_get (f := zcell P M) h.1
  rw [zcell_r h.2 he.2.1] at hq
  obtain ⟨t, ht⟩ := he.2.2
  exact va_alen ok.x ok.b ok.k hP q t hq (ht P) rfl hd (kk hF hM H locs ls hP hS hl)
/-! ===== returns ===== -/
theorem zend {ret : Option FieldType} {ty : FieldType} {v : Int32} {t : State} {H : Heap} (hret : ret = some ty) (hF : some (v, M) = some G.2.2.2) (hM : zWM P M) (hP : zW P M H) {locs : List Loc} (hS : va_S (zA P (zs G).heap.size) (zs G).heap H locs) (ht : t.heap = H) : zQ ret P (zs G).heap.size G.2.2.2 G.2.1.1 (zs G) (.returned (some (.int v))) t := by
  subst hret
  have e := Option.some.inj hF
  exact ⟨⟨v, M, rfl, ⟨by rw [← e], by rw [← e]⟩, hM, by rw [ht]; exact hP⟩, hS.F ht⟩
theorem z_iret (ok : zOK P G own cc nL fr lo (some .int)) {v : Int32} (hd : decode cc pc = .ok (.ireturn, 1)) : zG P G (some (v, M)) M pc lv [.int v] := by
  intro hF hM H locs ls hP hS hl
  unfold zWat
  rw [ok.2.2.2]
  exact W.iret ok.x ok.b ok.1.2.2.2.2.2 (fun t ht _ => zend rfl hF hM hP hS ht) hS.2.2 hd ok.1.2.2.2.2.1
theorem z_zret (ok : zOK P G own cc nL fr lo (some .boolean)) {v : Int32} (hd : decode cc pc = .ok (.ireturn, 1)) : zG P G (if zbo v = true then some (v, M) else none) M pc lv [.int v] := by
  intro hF hM H locs ls hP hS hl
  by_cases hv : zbo v = true
  · rw [if_pos hv] at hF
    unfold zWat
    rw [ok.2.2.2]
    exact W.zret ok.x ok.b ok.1.2.2.2.2.2 (zbo_ok hv).1 (fun t ht _ => zend rfl hF hM hP hS ht) hS.2.2 hd ok.1.2.2.2.2.1
  · rw [if_neg hv] at hF
    cases hF
theorem z_vret (ok : zOK P G own cc nL fr lo none) (hd : decode cc pc = .ok (.return_, 1)) : zG P G (some (0, M)) M pc lv [] := by
  intro hF hM H locs ls hP hS hl
  have e := Option.some.inj hF
  unfold zWat
  rw [ok.2.2.2]
  exact W.vret ok.x ok.b ok.1.2.2.2.2.2 (fun t ht _ => ⟨⟨M, rfl, by rw [← e], hM, by rw [ht]; exact hP⟩, hS.F ht⟩) hS.2.2 hd ok.1.2.2.2.2.1
/-! ===== calls ===== -/
theorem zcallB (ok : zOK P G own cc nL fr lo ret) {y : MethodName} {cy : ByteArray} {maxC frc loc n : Nat} {retc : Option FieldType} (hcode : zw (.code y cy maxC retc)) (hini : zw (.initialized y.cls)) (hd9 : y.cls ≠ "java/lang/invoke/MethodHandle" ∧ y.cls ≠ "java/lang/invoke/VarHandle" ∧ (parseMethodDescriptor y.desc).map (fun d => d.parameters.length) = some n) (hR : frc + 1 ≤ fr ∧ 8 + (maxC + 11) + loc ≤ lo) {idx : Nat} (hl : zw (.methodLink own idx y)) : CallB G.1.2.2.2.1 (zs G) G.2.1.1 own idx y cy maxC retc [.code y cy maxC retc] (zrm frc loc) 0 0 n := by
  refine ⟨rfl, rfl, by rw [ok.2.2.1]; exact hR.1, by rw [ok.2.2.1]; exact hR.2, fun w hw a' U hW => ?_, List.mem_cons_self, ok.w hcode, ok.w hini, ⟨hd9.1, hd9.2.1⟩, fun sig h => ?_, ok.w hl⟩
  · rw [List.mem_singleton.mp hw]
    exact (ok.t.warm hW).1 _ hcode a'
  · have h2 := hd9.2.2
    rw [h] at h2
    exact (Option.some.inj h2).symm
theorem zcallN (ok : zOK P G own cc nL fr lo ret) {y : MethodName} {cy : ByteArray} {maxC frc loc n : Nat} {retc : Option FieldType} (hcode : zw (.code y cy maxC retc)) (hini : zw (.initialized y.cls)) (hd9 : y.cls ≠ "java/lang/invoke/MethodHandle" ∧ y.cls ≠ "java/lang/invoke/VarHandle" ∧ (parseMethodDescriptor y.desc).map (fun d => d.parameters.length) = some n) (hR : frc + 1 ≤ fr ∧ 8 + (maxC + 11) + loc ≤ lo) {idx : Nat} {host : String} (hl : zwn (.methodLinkNest own idx y host)) : va_CN G.1.2.2.2.1 (zs G) G.2.1.1 own idx y host cy maxC retc [.code y cy maxC retc] (zrm frc loc) 0 0 n := by
  refine ⟨⟨rfl, rfl, by rw [ok.2.2.1]; exact hR.1, by rw [ok.2.2.1]; exact hR.2, fun w hw a' U hW => ?_, List.mem_cons_self⟩, ok.w hcode, ok.w hini, ⟨hd9.1, hd9.2.1⟩, fun sig h => ?_, va_Nw.use rfl (ok.m hl)⟩
  · rw [List.mem_singleton.mp hw]
    exact (ok.t.warm hW).1 _ hcode a'
  · have h2 := hd9.2.2
    rw [h] at h2
    exact (Option.some.inj h2).symm
theorem zpre_at (ok : zOK P G own cc nL fr lo ret) {H : Heap} (hM : zWM P M) (hP : zW P M H) {U : State} (hU : U.heap = H) (hW : (zs G).WarmedH U.vm) : zPre P H.size M U :=
  ⟨by rw [hU], hM, by rw [hU]; exact hP, va_K.moved hW.alike ok.k, ok.t.warm hW⟩
theorem zfree {H : Heap} {locs : List Loc} (hS : va_S (zA P (zs G).heap.size) (zs G).heap H locs) : ∀ q, zA P H.size q → zA P (zs G).heap.size q := fun q h => h.elim Or.inl (fun h => Or.inr (Nat.le_trans hS.1 h))
/-- behind a call that answers an int -/
theorem zafter_i {H : Heap} {locs : List Loc} {ls : Array Slot} {st0 : List Value} {retc : Option FieldType} {ty : FieldType} (hrc : retc = some ty) {ar : Array Value} {res : Int32 × zM} (hS : va_S (zA P (zs G).heap.size) (zs G).heap H locs) (hl : lv_has ls (zcd G).maxLocals lv)
    (hr : va_Run G.1.1 G.1.2.1 G.1.2.2.1 G.1.2.2.2.1 (zs G) G.1.2.2.2.2.2 G.2.1.1 G.2.1.2.1 G.2.1.2.2.1 G.2.1.2.2.2 H locs 0 0 0 0 (F0 G.1.2.2.2.2.2 pc ls st0) st (zQ retc P H.size res ar) (zA P H.size))
    (kk : zAt P G res.2 (pc + 3) lv (.int res.1 :: st)) : zWat G H locs pc ls st0 := by
  subst hrc
  refine va_calli (a := ar) hr hS (fun q _ h => zfree hS q h) (zfree hS) (fun r u t H1 locs1 ht hvm hw hB hz hk hS1 => ?_)
  obtain ⟨rfl, rfl⟩ := hw
  exact kk hB.1 H1 locs1 ls (by rw [← ht]; exact hB.2) hS1 hl
theorem zafter_v {H : Heap} {locs : List Loc} {ls : Array Slot} {st0 : List Value} {ar : Array Value} {res : Int32 × zM} (hS : va_S (zA P (zs G).heap.size) (zs G).heap H locs) (hl : lv_has ls (zcd G).maxLocals lv)
    (hr : va_Run G.1.1 G.1.2.1 G.1.2.2.1 G.1.2.2.2.1 (zs G) G.1.2.2.2.2.2 G.2.1.1 G.2.1.2.1 G.2.1.2.2.1 G.2.1.2.2.2 H locs 0 0 0 0 (F0 G.1.2.2.2.2.2 pc ls st0) st (zQ none P H.size res ar) (zA P H.size))
    (kk : zAt P G res.2 (pc + 3) lv st) : zWat G H locs pc ls st0 := by
  refine va_callv (a := ar) hr hS (fun q _ h => zfree hS q h) (zfree hS) (fun u t H1 locs1 ht hvm hw hB hz hk hS1 => ?_)
  subst hw
  exact kk hB.1 H1 locs1 ls (by rw [← ht]; exact hB.2) hS1 hl
theorem zb_some {x : Option (Int32 × zM)} {k : Int32 → zM → Option (Int32 × zM)} {r : Int32 × zM} (h : zb x k = some r) : ∃ q, x = some q ∧ k q.1 q.2 = some r := by
  cases x with
  | none => cases h
  | some q => exact ⟨q, rfl, h⟩
theorem zrecv (ok : zOK P G own cc nL fr lo ret) {H : Heap} (hP : zW P M H) {b kd : Nat} {C : String} {T : u_T} {N : Nat} (hb : zT P kd b) (hc : vwCl[kd]? = some (C, T, N)) : ∃ cell : Cell, H[b]? = some cell ∧ cell.vm.isStatics = false ∧ (zs G).vm.findClass C = some cell.cls := by
  obtain ⟨q, hq⟩ := zpl_get (f := zcell P M) hb.1
  rw [zcell_o hb.2 (zci hc)] at hq
  exact va_recv (q := (C, T, N)) ok.k hP hc hq
/-- what a virtual call needs of the tables -/
def zCv (own C : String) (idx : Nat) (y : MethodName) (cy : ByteArray) (maxC n kd : Nat) (retc : Option FieldType) : Prop :=
  zw (.code y cy maxC retc) ∧ zw (.initialized y.cls) ∧ zw (.methodLink own idx y) ∧ zw (.instanceMethod y) ∧ zw (.selects C y y) ∧ (y.cls ≠ "java/lang/invoke/MethodHandle" ∧ y.cls ≠ "java/lang/invoke/VarHandle" ∧ (parseMethodDescriptor y.desc).map (fun d => d.parameters.length) = some n) ∧ ∃ T N, vwCl[kd]? = some (C, T, N)
theorem z_callVi (ok : zOK P G own cc nL fr lo ret) {y : MethodName} {C : String} {cy : ByteArray} {maxC frc loc n idx kd b : Nat} {ty : FieldType} {Fc : zM → Option (Int32 × zM)} {k : Int32 → zM → Option (Int32 × zM)} {st0 : List Value} (As : List Value) (hM9 : zMet G.1.2.1 P y cy maxC frc loc (some ty) (.ref b :: As) Fc) (cv : zCv own C idx y cy maxC n kd (some ty)) (hb : zT P kd b) (hn : As.length = n) (hR : frc + 1 ≤ fr ∧ 8 + (maxC + 11) + loc ≤ lo) (hst : st0 = As.reverse ++ .ref b :: st) (hcat : (st.map fun v => v.category).sum ≤ 8) (hd : decode cc pc = .ok (.invokevirtual idx, 3)) (kk : ∀ (r : Int32) (M' : zM), zG P G (k r M') M' (pc + 3) lv (.int r :: st)) : zG P G (zb (Fc M) k) M pc lv st0 := by
  intro hF hM H locs ls hP hS hl
  obtain ⟨q, hq, hk⟩ := zb_some hF
  obtain ⟨c1, c2, c3, c4, c5, c6, T, N, c7⟩ := cv
  exact zafter_i rfl hS hl (va_runV (As := As) (rest := st) ⟨ok.x, ok.b, ok.n, ok.o, fun w (hw : w ∈ ([] : List Cond)) => absurd hw List.not_mem_nil⟩ (hM9 H.size M q hq) ⟨zcallB ok c1 c2 c6 hR c3, ok.w c4, ok.w c5⟩ ⟨zPre_blind, zrecv ok hP hb c7, fun U hU hW => ⟨rfl, zpre_at ok hM hP hU hW⟩⟩ rfl hn (hl.1.trans ok.n) hst (lv_room hcat) hd ⟨Nat.zero_le _, Nat.zero_le _⟩) (kk q.1 q.2 hk)
theorem z_callVv (ok : zOK P G own cc nL fr lo ret) {y : MethodName} {C : String} {cy : ByteArray} {maxC frc loc n idx kd b : Nat} {Fc : zM → Option (Int32 × zM)} {k : Int32 → zM → Option (Int32 × zM)} {st0 : List Value} (As : List Value) (hM9 : zMet G.1.2.1 P y cy maxC frc loc none (.ref b :: As) Fc) (cv : zCv own C idx y cy maxC n kd none) (hb : zT P kd b) (hn : As.length = n) (hR : frc + 1 ≤ fr ∧ 8 + (maxC + 11) + loc ≤ lo) (hst : st0 = As.reverse ++ .ref b :: st) (hcat : (st.map fun v => v.category).sum ≤ 8) (hd : decode cc pc = .ok (.invokevirtual idx, 3)) (kk : ∀ (r : Int32) (M' : zM), zG P G (k r M') M' (pc + 3) lv st) : zG P G (zb (Fc M) k) M pc lv st0 := by
  intro hF hM H locs ls hP hS hl
  obtain ⟨q, hq, hk⟩ := zb_some hF
  obtain ⟨c1, c2, c3, c4, c5, c6, T, N, c7⟩ := cv
  exact zafter_v hS hl (va_runV (As := As) (rest := st) ⟨ok.x, ok.b, ok.n, ok.o, fun w (hw : w ∈ ([] : List Cond)) => absurd hw List.not_mem_nil⟩ (hM9 H.size M q hq) ⟨zcallB ok c1 c2 c6 hR c3, ok.w c4, ok.w c5⟩ ⟨zPre_blind, zrecv ok hP hb c7, fun U hU hW => ⟨rfl, zpre_at ok hM hP hU hW⟩⟩ rfl hn (hl.1.trans ok.n) hst (lv_room hcat) hd ⟨Nat.zero_le _, Nat.zero_le _⟩) (kk q.1 q.2 hk)
/-- a static method of the class itself, or of a nest mate -/
def zCs (own : String) (idx : Nat) (y : MethodName) (cy : ByteArray) (maxC n : Nat) (retc : Option FieldType) : Prop :=
  zw (.code y cy maxC retc) ∧ zw (.initialized y.cls) ∧ zw (.static y) ∧ (y.cls ≠ "java/lang/invoke/MethodHandle" ∧ y.cls ≠ "java/lang/invoke/VarHandle" ∧ (parseMethodDescriptor y.desc).map (fun d => d.parameters.length) = some n) ∧ (zw (.methodLink own idx y) ∨ ∃ host, zwn (.methodLinkNest own idx y host))
theorem z_callSi (ok : zOK P G own cc nL fr lo ret) {y : MethodName} {cy : ByteArray} {maxC frc loc n idx : Nat} {ty : FieldType} {Fc : zM → Option (Int32 × zM)} {k : Int32 → zM → Option (Int32 × zM)} {st0 : List Value} (As : List Value) (hM9 : zMet G.1.2.1 P y cy maxC frc loc (some ty) As Fc) (cv : zCs own idx y cy maxC n (some ty)) (hn : As.length = n) (hR : frc + 1 ≤ fr ∧ 8 + (maxC + 11) + loc ≤ lo) (hst : st0 = As.reverse ++ st) (hcat : (st.map fun v => v.category).sum ≤ 8) (hd : decode cc pc = .ok (.invokestatic idx, 3)) (kk : ∀ (r : Int32) (M' : zM), zG P G (k r M') M' (pc + 3) lv (.int r :: st)) : zG P G (zb (Fc M) k) M pc lv st0 := by
  intro hF hM H locs ls hP hS hl
  obtain ⟨q, hq, hk⟩ := zb_some hF
  obtain ⟨c1, c2, c3, c4, c5⟩ := cv
  rcases c5 with c5 | ⟨host, c5⟩
  · exact zafter_i rfl hS hl (va_runS (As := As) (rest := st) ⟨ok.x, ok.b, ok.n, ok.o, fun w (hw : w ∈ ([] : List Cond)) => absurd hw List.not_mem_nil⟩ (hM9 H.size M q hq) ⟨zcallB ok c1 c2 c4 hR c5, ok.w c3⟩ ⟨zPre_blind, fun U hU hW => ⟨rfl, zpre_at ok hM hP hU hW⟩⟩ rfl hn (hl.1.trans ok.n) hst (lv_room hcat) hd ⟨Nat.zero_le _, Nat.zero_le _⟩) (kk q.1 q.2 hk)
  · exact zafter_i rfl hS hl (va_runSN (As := As) (rest := st) ⟨ok.x, ok.b, ok.n, ok.o, fun w (hw : w ∈ ([] : List Cond)) => absurd hw List.not_mem_nil⟩ (hM9 H.size M q hq) ⟨zcallN ok c1 c2 c4 hR c5, ok.w c3, trivial⟩ ⟨zPre_blind, fun U hU hW => ⟨rfl, zpre_at ok hM hP hU hW⟩⟩ rfl hn (hl.1.trans ok.n) hst (lv_room hcat) hd ⟨Nat.zero_le _, Nat.zero_le _⟩) (kk q.1 q.2 hk)
theorem z_callSv (ok : zOK P G own cc nL fr lo ret) {y : MethodName} {cy : ByteArray} {maxC frc loc n idx : Nat} {Fc : zM → Option (Int32 × zM)} {k : Int32 → zM → Option (Int32 × zM)} {st0 : List Value} (As : List Value) (hM9 : zMet G.1.2.1 P y cy maxC frc loc none As Fc) (cv : zCs own idx y cy maxC n none) (hn : As.length = n) (hR : frc + 1 ≤ fr ∧ 8 + (maxC + 11) + loc ≤ lo) (hst : st0 = As.reverse ++ st) (hcat : (st.map fun v => v.category).sum ≤ 8) (hd : decode cc pc = .ok (.invokestatic idx, 3)) (kk : ∀ (r : Int32) (M' : zM), zG P G (k r M') M' (pc + 3) lv st) : zG P G (zb (Fc M) k) M pc lv st0 := by
  intro hF hM H locs ls hP hS hl
  obtain ⟨q, hq, hk⟩ := zb_some hF
  obtain ⟨c1, c2, c3, c4, c5⟩ := cv
  rcases c5 with c5 | ⟨host, c5⟩
  · exact zafter_v hS hl (va_runS (As := As) (rest := st) ⟨ok.x, ok.b, ok.n, ok.o, fun w (hw : w ∈ ([] : List Cond)) => absurd hw List.not_mem_nil⟩ (hM9 H.size M q hq) ⟨zcallB ok c1 c2 c4 hR c5, ok.w c3⟩ ⟨zPre_blind, fun U hU hW => ⟨rfl, zpre_at ok hM hP hU hW⟩⟩ rfl hn (hl.1.trans ok.n) hst (lv_room hcat) hd ⟨Nat.zero_le _, Nat.zero_le _⟩) (kk q.1 q.2 hk)
  · exact zafter_v hS hl (va_runSN (As := As) (rest := st) ⟨ok.x, ok.b, ok.n, ok.o, fun w (hw : w ∈ ([] : List Cond)) => absurd hw List.not_mem_nil⟩ (hM9 H.size M q hq) ⟨zcallN ok c1 c2 c4 hR c5, ok.w c3, trivial⟩ ⟨zPre_blind, fun U hU hW => ⟨rfl, zpre_at ok hM hP hU hW⟩⟩ rfl hn (hl.1.trans ok.n) hst (lv_room hcat) hd ⟨Nat.zero_le _, Nat.zero_le _⟩) (kk q.1 q.2 hk)
theorem z_min (ok : zOK P G own cc nL fr lo ret) {idx : Nat} {x y : Int32} (h1 : zw (.methodLink own idx Lib.Math.min.name)) (h2 : zw (.static Lib.Math.min.name)) (h3 : zw (.initialized "java/lang/Math")) (h4 : zw (.code Lib.Math.min.name Lib.Math.min.code 2 (some .int))) (hR : 1 ≤ fr ∧ (st.map fun v => v.category).sum + 13 ≤ lo) (hd : decode cc pc = .ok (.invokestatic idx, 3)) (kk : zG P G F M (pc + 3) lv (.int (if y < x then y else x) :: st)) : zG P G F M pc lv (.int y :: .int x :: st) := by
  intro hF hM H locs ls hP hS hl
  exact va_mmin ok.x ok.b hl.1.symm ok.o (ok.w h1) (ok.w h2) (ok.w h3) (ok.w h4) (by rw [ok.2.2.1]; exact hR.1) (by rw [ok.2.2.1]; exact hR.2) (Nat.zero_le _) (Nat.zero_le _) hd (kk hF hM H locs ls hP hS hl)
theorem z_abs (ok : zOK P G own cc nL fr lo ret) {idx : Nat} {x : Int32} (h1 : zw (.methodLink own idx Lib.Math.abs.name)) (h2 : zw (.static Lib.Math.abs.name)) (h3 : zw (.initialized "java/lang/Math")) (h4 : zw (.code Lib.Math.abs.name Lib.Math.abs.code 1 (some .int))) (hR : 1 ≤ fr ∧ (st.map fun v => v.category).sum + 13 ≤ lo) (hd : decode cc pc = .ok (.invokestatic idx, 3)) (kk : zG P G F M (pc + 3) lv (.int (if 0 ≤ x then x else 0 - x) :: st)) : zG P G F M pc lv (.int x :: st) := by
  intro hF hM H locs ls hP hS hl
  exact va_mabs ok.x ok.b hl.1.symm ok.o (ok.w h1) (ok.w h2) (ok.w h3) (ok.w h4) (by rw [ok.2.2.1]; exact hR.1) (by rw [ok.2.2.1]; exact hR.2) (Nat.zero_le _) (Nat.zero_le _) hd (kk hF hM H locs ls hP hS hl)
end ZR
end
